/** A test for each sentence of the promises that names a boundary; above each one stand its words. */
public final class BoundariesTest extends Drawings {
    public static void main(String[] args) {
        newHasNoSegments();
        addAnswersLeastNumber();
        addBadPoint();
        addSameEnds();
        addRefused();
        addRefusedByAnyOfThem();
        addFull();
        addInThisOrder();
        removeTakesAway();
        removeNone();
        segmentsBits();
        meetInCommon();
        meetNotThere();
        meetingsCount();
        topAndBottomOfNone();
        topAndBottomWrongAxis();
        throughNone();
        degreeOfNone();
        degreeCount();
        onNoPoint();
        aboveStraightAndGreater();
        aboveLeastOfSeveral();
        aboveAnyOfThem();
        aboveNoneOrNoPoint();
        belowStraightAndLess();
        belowLeastOfSeveral();
        belowAnyOfThem();
        belowNoneOrNoPoint();
        piecesCount();
        groupsCount();
        facesCount();
        RefusedCalls.changeNothing();
        Due.end();
    }

    /** Promise 1, "No segments." */
    private static void newHasNoSegments() {
        Due.is("1: segments", new SegmentSweep().segments(), 0);
        SegmentSweep s = new SegmentSweep();
        for (int k = 0; k < 10; k++) {
            Due.is("1: remove " + k, s.remove(k), false);
            Due.is("1: degree " + k, s.degree(k), BAD);
        }
        Due.is("1: nothing to meet", s.meetings(), 0);
        Due.is("1: room for the first", s.add(0, 1), 0);
    }

    /** Promise 2, "Adds a segment and answers the least number that none has." */
    private static void addAnswersLeastNumber() {
        for (int gap = 0; gap < 10; gap++) {
            SegmentSweep s = levels(10);
            s.remove(gap);
            Due.is("2: the one gap " + gap, s.add(at(0, 20), at(4, 20)), gap);
            Due.is("2: the gap's new segment " + gap, s.on(at(2, 20)), 1 << gap);
        }
        SegmentSweep s = levels(10);
        s.remove(8);
        s.remove(3);
        s.remove(5);
        Due.is("2: the least of three", s.add(at(0, 18), at(4, 18)), 3);
        Due.is("2: the least of two", s.add(at(0, 19), at(4, 19)), 5);
        Due.is("2: the last", s.add(at(0, 20), at(4, 20)), 8);
        SegmentSweep few = levels(2);
        few.remove(0);
        Due.is("2: a gap before a number that was never had", few.add(at(0, 20), at(4, 20)), 0);
        Due.is("2: then that number", few.add(at(0, 19), at(4, 19)), 2);
    }

    /** Promise 2, "BAD when one or other is no such point" */
    private static void addBadPoint() {
        for (int p : NO_POINTS) {
            SegmentSweep s = new SegmentSweep();
            Due.is("2: one is " + p, s.add(p, at(3, 3)), BAD);
            Due.is("2: other is " + p, s.add(at(3, 3), p), BAD);
            for (int q : NO_POINTS) {
                Due.is("2: both are none, " + p + ", " + q, s.add(p, q), BAD);
            }
            Due.is("2: nothing was added", s.segments(), 0);
        }
    }

    /** Promise 2, "or they are the same" */
    private static void addSameEnds() {
        SegmentSweep s = with(0, 5, 10, 5);
        for (int p : new int[] {0, 20, at(0, 20), at(20, 20), at(7, 11), at(0, 5), at(4, 5), at(10, 5)}) {
            Due.is("2: the same, " + p, s.add(p, p), BAD);
        }
        Due.is("2: one apart", s.add(at(7, 11), at(7, 12)), 1);
    }

    /** Promise 2, "REFUSED when it has more than one point in common with a segment that is there" */
    private static void addRefused() {
        // Level, upright, rising and falling; the old segment is from step 2 to step 4 of a line of steps.
        int[][] lines = {{0, 9, 3, 0}, {9, 0, 0, 3}, {0, 0, 3, 3}, {0, 18, 3, -3}, {0, 0, 3, 2}, {18, 0, -2, 3}};
        for (int[] line : lines) {
            int[] step = new int[7];
            for (int i = 0; i < 7; i++) {
                step[i] = at(line[0] + i * line[2], line[1] + i * line[3]);
            }
            for (int from = 0; from < 7; from++) {
                for (int to = 0; to < 7; to++) {
                    boolean overlaps = Math.min(from, to) < 4 && Math.max(from, to) > 2;
                    int due = from == to ? BAD : overlaps ? REFUSED : 1;
                    SegmentSweep s = new SegmentSweep();
                    s.add(step[2], step[4]);
                    Due.is("2: steps " + from + " to " + to, s.add(step[from], step[to]), due);
                    SegmentSweep turned = new SegmentSweep();
                    turned.add(step[4], step[2]);
                    Due.is("2: steps " + from + " to " + to + ", turned", turned.add(step[from], step[to]), due);
                    s.remove(0);
                    s.remove(1);
                    Due.is("2: what is away refuses none", s.add(step[from], step[to]), from == to ? BAD : 0);
                }
            }
        }
        Due.is("2: parallel, beside it", with(2, 2, 8, 8).add(at(2, 3), at(8, 9)), 1);
        Due.is("2: nearly the same", with(0, 0, 20, 19).add(at(0, 0), at(20, 20)), 1);
        Due.is("2: nearly in line", with(0, 0, 19, 18).add(at(19, 18), at(20, 19)), 1);
    }

    /** Promise 2, "with a segment that is there": whichever it is. */
    private static void addRefusedByAnyOfThem() {
        for (int k = 0; k < 10; k++) {
            SegmentSweep s = levels(10);
            Due.is("2: refused by " + k, s.add(at(3, k), at(5, k)), REFUSED);
            s.remove(k);
            Due.is("2: no longer refused by " + k, s.add(at(3, k), at(5, k)), k);
            Due.is("2: refused by the new one " + k, s.add(at(4, k), at(9, k)), REFUSED);
        }
    }

    /** Promise 2, "FULL when there are ten" */
    private static void addFull() {
        Due.is("2: nine are not full", levels(9).add(at(0, 20), at(4, 20)), 9);
        SegmentSweep s = levels(10);
        Due.is("2: ten are full", s.add(at(0, 20), at(4, 20)), FULL);
        Due.is("2: ten are full, where it would cross", s.add(at(2, 0), at(2, 20)), FULL);
        Due.is("2: ten are full, end to end", s.add(at(4, 3), at(9, 3)), FULL);
        for (int k = 0; k < 10; k++) {
            Due.is("2: one away " + k, s.remove(k), true);
            Due.is("2: not full " + k, s.add(at(6, k), at(9, k)), k);
            Due.is("2: full again " + k, s.add(at(0, 20), at(4, 20)), FULL);
        }
    }

    /** Promise 2, "Tested in this order" */
    private static void addInThisOrder() {
        // Read without a test of x, the end would be (21, 5), and the segment would lie over segment 0.
        SegmentSweep one = with(0, 5, 20, 5);
        Due.is("2: bad before refused", one.add(at(3, 5), at(21, 5)), BAD);
        Due.is("2: bad before refused, turned", one.add(at(21, 5), at(3, 5)), BAD);
        SegmentSweep upright = with(5, 0, 5, 20);
        Due.is("2: bad before refused, y", upright.add(at(5, 3), at(5, 21)), BAD);
        Due.is("2: bad before refused, y below 0", upright.add(at(5, 3), at(5, -1)), BAD);
        SegmentSweep ten = levels(10);
        Due.is("2: bad before full, one", ten.add(21, at(3, 20)), BAD);
        Due.is("2: bad before full, other", ten.add(at(3, 20), at(0, 21)), BAD);
        Due.is("2: bad before full, the same", ten.add(at(3, 20), at(3, 20)), BAD);
        Due.is("2: refused before full", ten.add(at(3, 9), at(9, 9)), REFUSED);
        Due.is("2: refused before full, by the first", ten.add(at(3, 0), at(9, 0)), REFUSED);
        Due.is("2: refused before full, the same segment", ten.add(at(0, 4), at(4, 4)), REFUSED);
        Due.is("2: bad before refused and full", ten.add(at(3, 9), at(21, 9)), BAD);
        Due.is("2: full last", ten.add(at(5, 9), at(9, 9)), FULL);
    }

    /** Promise 3, "Takes segment k away and answers true" */
    private static void removeTakesAway() {
        for (int k = 0; k < 10; k++) {
            SegmentSweep s = mostMeetings();
            Due.is("3: remove " + k, s.remove(k), true);
            Due.is("3: the others stay " + k, s.segments(), 1023 & ~(1 << k));
            Due.is("3: its meetings are gone " + k, s.meetings(), 36);
            Due.is("3: its pieces are gone " + k, s.pieces(), 81);
            Due.is("3: its number is free " + k, s.add(at(19, 19), at(20, 20)), k);
        }
    }

    /** Promise 3, "false when there is none" */
    private static void removeNone() {
        SegmentSweep s = levels(10);
        for (int k : NO_SEGMENTS) {
            Due.is("3: remove " + k, s.remove(k), false);
        }
        Due.is("3: all are there", s.segments(), 1023);
        for (int k = 0; k < 10; k++) {
            Due.is("3: there " + k, s.remove(k), true);
            Due.is("3: no longer there " + k, s.remove(k), false);
        }
        Due.is("3: never there", levels(3).remove(3), false);
        Due.is("3: nothing is there", new SegmentSweep().remove(0), false);
    }

    /** Promise 4, "bit k for segment k" */
    private static void segmentsBits() {
        Due.is("4: empty", new SegmentSweep().segments(), 0);
        Due.is("4: full", levels(10).segments(), 1023);
        for (int k = 0; k < 10; k++) {
            SegmentSweep s = levels(10);
            s.remove(k);
            Due.is("4: all but " + k, s.segments(), 1023 - (1 << k));
            SegmentSweep alone = levels(10);
            for (int j = 0; j < 10; j++) {
                if (j != k) {
                    alone.remove(j);
                }
            }
            Due.is("4: " + k + " alone", alone.segments(), 1 << k);
        }
    }

    /** Promise 5, "Whether the segments j and k have a point in common" */
    private static void meetInCommon() {
        SegmentSweep all = mostMeetings();
        SegmentSweep star = star();
        SegmentSweep apart = levels(10);
        for (int j = 0; j < 10; j++) {
            for (int k = 0; k < 10; k++) {
                Due.is("5: all meet " + j + ", " + k, all.meet(j, k), true);
                Due.is("5: all meet in one point " + j + ", " + k, star.meet(j, k), true);
                // A segment has all its points in common with itself.
                Due.is("5: none meets another one " + j + ", " + k, apart.meet(j, k), j == k);
            }
        }
        Due.is("5: an end of both", with(0, 0, 5, 5, 5, 5, 9, 0).meet(0, 1), true);
        Due.is("5: an end of one", with(0, 0, 6, 6, 3, 3, 9, 0).meet(0, 1), true);
        Due.is("5: end to end in one line", with(0, 0, 5, 5, 5, 5, 9, 9).meet(0, 1), true);
        Due.is("5: in one line, apart", with(0, 0, 5, 5, 6, 6, 9, 9).meet(0, 1), false);
        Due.is("5: parallel", with(0, 0, 5, 5, 0, 1, 5, 6).meet(0, 1), false);
        Due.is("5: nearly", with(0, 0, 20, 19, 19, 18, 20, 0).meet(0, 1), false);
        Due.is("5: just short of it", with(0, 0, 9, 0, 4, 1, 4, 9).meet(0, 1), false);
        SegmentSweep third = with(0, 0, 9, 0, 0, 5, 9, 5, 4, 0, 4, 5);
        Due.is("5: joined by a third one", third.meet(0, 1), false);
    }

    /** Promise 5, "false when one is not there" */
    private static void meetNotThere() {
        for (int k : NO_SEGMENTS) {
            SegmentSweep s = star();
            for (int j = 0; j < 10; j++) {
                Due.is("5: second is none, " + j + ", " + k, s.meet(j, k), false);
                Due.is("5: first is none, " + k + ", " + j, s.meet(k, j), false);
            }
            Due.is("5: both are none " + k, s.meet(k, k), false);
        }
        for (int k = 0; k < 10; k++) {
            SegmentSweep s = star();
            s.remove(k);
            for (int j = 0; j < 10; j++) {
                Due.is("5: second is away, " + j + ", " + k, s.meet(j, k), false);
                Due.is("5: first is away, " + k + ", " + j, s.meet(k, j), false);
            }
        }
        Due.is("5: nothing is there", new SegmentSweep().meet(0, 0), false);
    }

    /** Promise 6, "The number of meeting points." */
    private static void meetingsCount() {
        Due.is("6: empty", new SegmentSweep().meetings(), 0);
        Due.is("6: ten apart", levels(10).meetings(), 0);
        Due.is("6: ten in one", star().meetings(), 1);
        Due.is("6: the most", mostMeetings().meetings(), 45);
        SegmentSweep s = mostMeetings();
        int left = 10;
        for (int k = 9; k >= 0; k--) {
            s.remove(k);
            left--;
            Due.is("6: of " + left, s.meetings(), left * (left - 1) / 2);
        }
    }

    private static void hasNone(SegmentSweep s, int i) {
        for (int axis = 0; axis < 2; axis++) {
            Due.is("7: top of " + i + ", axis " + axis, s.top(i, axis), BAD);
            Due.is("8: bottom of " + i + ", axis " + axis, s.bottom(i, axis), BAD);
        }
    }

    /** Promise 7, "BAD when there is none", and promise 8, "BAD as in top" */
    private static void topAndBottomOfNone() {
        hasNone(new SegmentSweep(), 0);
        hasNone(levels(10), 0);
        SegmentSweep one = star();
        Due.is("7: 0 is there", one.top(0, 0), 10);
        Due.is("8: 0 is there", one.bottom(0, 1), 1);
        hasNone(one, 1);
        SegmentSweep all = mostMeetings();
        Due.is("7: 44 is there", all.top(44, 1) != BAD, true);
        Due.is("8: 44 is there", all.bottom(44, 1) >= 1, true);
        for (int i : NO_MEETINGS) {
            hasNone(one, i);
            hasNone(all, i);
        }
        all.remove(9);
        Due.is("7: 35 is there", all.top(35, 1) != BAD, true);
        hasNone(all, 36);
        hasNone(all, 44);
        one.remove(0);
        Due.is("7: nine still meet", one.top(0, 0), 10);
        for (int k = 1; k < 9; k++) {
            one.remove(k);
        }
        hasNone(one, 0);
    }

    /** Promise 7, "or axis is not 0 or 1", and promise 8, "BAD as in top" */
    private static void topAndBottomWrongAxis() {
        SegmentSweep s = mostMeetings();
        for (int axis : NO_AXES) {
            for (int i : new int[] {0, 1, 44, 45, -1}) {
                Due.is("7: top of " + i + ", axis " + axis, s.top(i, axis), BAD);
                Due.is("8: bottom of " + i + ", axis " + axis, s.bottom(i, axis), BAD);
            }
        }
        Due.is("7: axis 0", with(0, 3, 4, 3, 2, 0, 2, 7).top(0, 0), 2);
        Due.is("7: axis 1", with(0, 3, 4, 3, 2, 0, 2, 7).top(0, 1), 3);
        Due.is("8: axis 0", with(0, 1, 4, 1, 2, 0, 3, 2).bottom(0, 0), 2);
        Due.is("8: axis 1", with(0, 1, 4, 1, 2, 0, 3, 2).bottom(0, 1), 1);
    }

    /** Promise 9, "BAD when there is none" */
    private static void throughNone() {
        Due.is("9: empty", new SegmentSweep().through(0), BAD);
        Due.is("9: ten apart", levels(10).through(0), BAD);
        SegmentSweep one = star();
        Due.is("9: the only one", one.through(0), 1023);
        Due.is("9: after the only one", one.through(1), BAD);
        SegmentSweep all = mostMeetings();
        Due.is("9: the last one", Integer.bitCount(all.through(44)), 2);
        for (int i : NO_MEETINGS) {
            Due.is("9: through " + i, all.through(i), BAD);
            Due.is("9: through " + i + " of one", one.through(i), BAD);
        }
        all.remove(0);
        Due.is("9: the last one of 36", Integer.bitCount(all.through(35)), 2);
        Due.is("9: after the last one of 36", all.through(36), BAD);
    }

    /** Promise 10, "BAD when there is none" */
    private static void degreeOfNone() {
        Due.is("10: empty", new SegmentSweep().degree(0), BAD);
        SegmentSweep s = mostMeetings();
        for (int k : NO_SEGMENTS) {
            Due.is("10: degree " + k, s.degree(k), BAD);
        }
        for (int k = 0; k < 10; k++) {
            Due.is("10: there " + k, s.degree(k), 9 - k);
            s.remove(k);
            Due.is("10: away " + k, s.degree(k), BAD);
        }
    }

    /** Promise 10, "The number of meeting points on segment k" */
    private static void degreeCount() {
        for (int k = 0; k < 10; k++) {
            Due.is("10: none " + k, levels(10).degree(k), 0);
            Due.is("10: one, with nine others " + k, star().degree(k), 1);
            Due.is("10: the most " + k, mostMeetings().degree(k), 9);
            Due.is("10: five " + k, grid().degree(k), 5);
        }
        SegmentSweep ends = with(0, 0, 9, 0, 0, 0, 0, 9, 9, 0, 9, 9);
        Due.is("10: both ends", ends.degree(0), 2);
        Due.is("10: one end", ends.degree(1), 1);
    }

    /** Promise 11, "BAD when it is no such point" */
    private static void onNoPoint() {
        SegmentSweep s = grid();
        for (int p : NO_POINTS) {
            Due.is("11: on " + p, s.on(p), BAD);
            Due.is("11: on " + p + ", empty", new SegmentSweep().on(p), BAD);
        }
        Due.is("11: a point with none is no wrong point", s.on(at(20, 20)), 0);
        Due.is("11: nor in an empty object", new SegmentSweep().on(at(20, 20)), 0);
        Due.is("11: all ten", star().on(at(10, 10)), 1023);
        Due.is("11: the least point", with(0, 0, 5, 5).on(0), 1);
        Due.is("11: the greatest point", with(20, 20, 5, 5).on(660), 1);
    }

    /** Promise 12, "a point straight above a point (the same x, a greater y)" */
    private static void aboveStraightAndGreater() {
        SegmentSweep s = with(5, 10, 15, 10);
        for (int x = 0; x <= 20; x++) {
            int due = x >= 5 && x <= 15 ? 0 : BAD;
            Due.is("12: just under it, x = " + x, s.above(at(x, 9)), due);
            Due.is("12: far under it, x = " + x, s.above(at(x, 0)), due);
            Due.is("12: on it, x = " + x, s.above(at(x, 10)), BAD);
            Due.is("12: over it, x = " + x, s.above(at(x, 11)), BAD);
        }
        SegmentSweep flat = with(0, 7, 20, 8);
        Due.is("12: a twentieth above", flat.above(at(1, 7)), 0);
        Due.is("12: nothing above", flat.above(at(0, 7)), BAD);
        Due.is("12: a twentieth under the point", flat.above(at(19, 8)), BAD);
    }

    /** Promise 12, "the one whose point there has the least y, of several the least number" */
    private static void aboveLeastOfSeveral() {
        int[][] orders = {{0, 1, 2}, {2, 1, 0}, {1, 0, 2}, {1, 2, 0}};
        int[][] near = {{0, 6, 18, 5}, {0, 6, 19, 5}, {0, 6, 20, 5}};
        for (int[] order : orders) {
            SegmentSweep s = new SegmentSweep();
            int least = BAD;
            for (int k : order) {
                int number = s.add(at(near[k][0], near[k][1]), at(near[k][2], near[k][3]));
                least = k == 0 ? number : least;
            }
            Due.is("12: least by 1 / 342", s.above(at(1, 5)), least);
            Due.is("12: of three at one y the least number", s.above(at(0, 5)), 0);
        }
        SegmentSweep s = with(0, 0, 3, 20, 3, 20, 9, 5, 3, 20, 3, 10);
        Due.is("12: an end of two", s.above(at(3, 5)), 0);
        s.remove(0);
        Due.is("12: an end of one and an upright", s.above(at(3, 5)), 1);
        SegmentSweep cross = with(0, 20, 20, 20, 0, 11, 20, 9, 0, 9, 20, 11, 0, 18, 20, 18);
        Due.is("12: a crossing of two", cross.above(at(10, 9)), 1);
        Due.is("12: beside the crossing", cross.above(at(9, 9)), 2);
        Due.is("12: at the crossing, the next one", cross.above(at(10, 10)), 3);
    }

    /** Promise 12, "Of the segments": whichever number it has. */
    private static void aboveAnyOfThem() {
        SegmentSweep s = levels(10);
        for (int k = 0; k < 9; k++) {
            Due.is("12: above level " + k, s.above(at(2, k)), k + 1);
        }
        for (int k = 9; k > 0; k--) {
            SegmentSweep alone = levels(10);
            for (int j = 1; j < 10; j++) {
                if (j != k) {
                    alone.remove(j);
                }
            }
            Due.is("12: " + k + " alone is above", alone.above(at(4, 0)), k);
        }
    }

    /** Promise 12, "BAD when there is none or point is no such point" */
    private static void aboveNoneOrNoPoint() {
        Due.is("12: empty", new SegmentSweep().above(0), BAD);
        Due.is("12: an upright one alone", with(3, 5, 3, 9).above(at(3, 0)), BAD);
        Due.is("12: inside an upright one", with(3, 5, 3, 9).above(at(3, 7)), BAD);
        SegmentSweep s = with(0, 20, 20, 20);
        for (int x = 0; x <= 20; x++) {
            Due.is("12: the highest under it, x = " + x, s.above(at(x, 19)), 0);
            Due.is("12: nothing over the highest, x = " + x, s.above(at(x, 20)), BAD);
        }
        for (int p : NO_POINTS) {
            Due.is("12: above " + p, s.above(p), BAD);
        }
        s.remove(0);
        Due.is("12: away", s.above(0), BAD);
    }

    /** Promise 13, "Likewise below" */
    private static void belowStraightAndLess() {
        SegmentSweep s = with(5, 10, 15, 10);
        for (int x = 0; x <= 20; x++) {
            int due = x >= 5 && x <= 15 ? 0 : BAD;
            Due.is("13: just over it, x = " + x, s.below(at(x, 11)), due);
            Due.is("13: far over it, x = " + x, s.below(at(x, 20)), due);
            Due.is("13: on it, x = " + x, s.below(at(x, 10)), BAD);
            Due.is("13: under it, x = " + x, s.below(at(x, 9)), BAD);
        }
        SegmentSweep flat = with(0, 7, 20, 8);
        Due.is("13: a twentieth below", flat.below(at(19, 8)), 0);
        Due.is("13: nothing below", flat.below(at(20, 8)), BAD);
        Due.is("13: a twentieth over the point", flat.below(at(1, 7)), BAD);
    }

    /** Promise 13, "the greatest y that is less", and of several the least number */
    private static void belowLeastOfSeveral() {
        int[][] orders = {{0, 1, 2}, {2, 1, 0}, {1, 0, 2}, {1, 2, 0}};
        int[][] near = {{0, 5, 18, 6}, {0, 5, 19, 6}, {0, 5, 20, 6}};
        for (int[] order : orders) {
            SegmentSweep s = new SegmentSweep();
            int greatest = BAD;
            for (int k : order) {
                int number = s.add(at(near[k][0], near[k][1]), at(near[k][2], near[k][3]));
                greatest = k == 0 ? number : greatest;
            }
            Due.is("13: greatest by 1 / 342", s.below(at(1, 6)), greatest);
            Due.is("13: of three at one y the least number", s.below(at(0, 6)), 0);
        }
        SegmentSweep s = with(0, 20, 3, 0, 3, 0, 9, 15, 3, 0, 3, 10);
        Due.is("13: an end of two", s.below(at(3, 15)), 0);
        s.remove(0);
        Due.is("13: an end of one and an upright", s.below(at(3, 15)), 1);
        SegmentSweep cross = with(0, 0, 20, 0, 0, 11, 20, 9, 0, 9, 20, 11, 0, 2, 20, 2);
        Due.is("13: a crossing of two", cross.below(at(10, 11)), 1);
        Due.is("13: beside the crossing", cross.below(at(11, 11)), 2);
        Due.is("13: at the crossing, the next one", cross.below(at(10, 10)), 3);
    }

    /** Promise 13, "Likewise below": whichever number it has. */
    private static void belowAnyOfThem() {
        SegmentSweep s = levels(10);
        for (int k = 9; k >= 0; k--) {
            Due.is("13: " + k + " is below", s.below(at(4, 20)), k);
            Due.is("13: below level " + k, s.below(at(2, k)), k - 1);
            s.remove(k);
        }
    }

    /** Promise 13, "Likewise": BAD when there is none or point is no such point */
    private static void belowNoneOrNoPoint() {
        Due.is("13: empty", new SegmentSweep().below(660), BAD);
        Due.is("13: an upright one alone", with(3, 5, 3, 9).below(at(3, 20)), BAD);
        Due.is("13: inside an upright one", with(3, 5, 3, 9).below(at(3, 7)), BAD);
        SegmentSweep s = with(0, 0, 20, 0);
        for (int x = 0; x <= 20; x++) {
            Due.is("13: the lowest over it, x = " + x, s.below(at(x, 1)), 0);
            Due.is("13: nothing under the lowest, x = " + x, s.below(at(x, 0)), BAD);
        }
        for (int p : NO_POINTS) {
            Due.is("13: below " + p, s.below(p), BAD);
        }
        s.remove(0);
        Due.is("13: away", s.below(660), BAD);
    }

    /** Promise 14, "The number of pieces." */
    private static void piecesCount() {
        Due.is("14: empty", new SegmentSweep().pieces(), 0);
        Due.is("14: ten apart", levels(10).pieces(), 10);
        Due.is("14: the most", mostMeetings().pieces(), 100);
        Due.is("14: a grid", grid().pieces(), 60);
        SegmentSweep s = with(0, 0, 10, 10, 0, 10, 10, 0);
        Due.is("14: cut", s.pieces(), 4);
        s.remove(1);
        Due.is("14: whole again", s.pieces(), 1);
        s.remove(0);
        Due.is("14: empty again", s.pieces(), 0);
    }

    /** Promise 15, "The number of groups." */
    private static void groupsCount() {
        Due.is("15: empty", new SegmentSweep().groups(), 0);
        Due.is("15: one", with(0, 0, 1, 1).groups(), 1);
        Due.is("15: the most", levels(10).groups(), 10);
        Due.is("15: all in one", mostMeetings().groups(), 1);
        SegmentSweep s = levels(10);
        for (int k = 0; k < 10; k++) {
            s.remove(k);
            Due.is("15: without " + k, s.groups(), 9 - k);
        }
    }

    /** Promise 16, "The number of faces that are not unbounded." */
    private static void facesCount() {
        Due.is("16: empty", new SegmentSweep().faces(), 0);
        Due.is("16: one", with(0, 0, 1, 1).faces(), 0);
        Due.is("16: ten apart", levels(10).faces(), 0);
        Due.is("16: the most", mostMeetings().faces(), 36);
        Due.is("16: a grid", grid().faces(), 16);
        SegmentSweep s = with(0, 0, 9, 0, 9, 0, 0, 9, 0, 9, 0, 0);
        Due.is("16: the least that has one", s.faces(), 1);
        s.remove(1);
        Due.is("16: open", s.faces(), 0);
        s.add(at(9, 0), at(0, 9));
        Due.is("16: shut again", s.faces(), 1);
    }
}
