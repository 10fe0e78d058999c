/** For each promise: ordinary inputs, the edges that the document names, and wrong inputs. */
public final class PromisesTest extends Drawings {
    public static void main(String[] args) {
        promise1();
        promise2BadPoints();
        promise2Refused();
        promise2Allowed();
        promise2FullAndOrder();
        promise2LeastNumber();
        promise3();
        promise4();
        promise5();
        promise6();
        promises7And8();
        promises7And8Order();
        promises7And8Wrong();
        promise9();
        promise10();
        promise11();
        promise12();
        promise13();
        promise14();
        promise15();
        promise16();
        promise16Grid();
        Due.end();
    }

    private static void isEmpty(String when, SegmentSweep s) {
        Due.is(when + ": segments", s.segments(), 0);
        Due.is(when + ": meetings", s.meetings(), 0);
        Due.is(when + ": pieces", s.pieces(), 0);
        Due.is(when + ": groups", s.groups(), 0);
        Due.is(when + ": faces", s.faces(), 0);
        Due.is(when + ": top", s.top(0, 0), BAD);
        Due.is(when + ": bottom", s.bottom(0, 0), BAD);
        Due.is(when + ": through", s.through(0), BAD);
        Due.is(when + ": on", s.on(0), 0);
        Due.is(when + ": above", s.above(0), BAD);
        Due.is(when + ": below", s.below(at(0, 20)), BAD);
        for (int k = 0; k < 10; k++) {
            Due.is(when + ": degree " + k, s.degree(k), BAD);
            Due.is(when + ": meet " + k, s.meet(k, k), false);
            Due.is(when + ": remove " + k, s.remove(k), false);
        }
    }

    private static void promise1() {
        isEmpty("1: new", new SegmentSweep());
        SegmentSweep used = with(0, 0, 5, 5, 0, 5, 5, 0);
        isEmpty("1: new beside a used one", new SegmentSweep());
        Due.is("1: the used one keeps its own", used.meetings(), 1);
    }

    private static void promise2BadPoints() {
        SegmentSweep s = new SegmentSweep();
        for (int p : NO_POINTS) {
            Due.is("2: add(" + p + ", 0)", s.add(p, 0), BAD);
            Due.is("2: add(0, " + p + ")", s.add(0, p), BAD);
            Due.is("2: add(" + p + ", " + p + ")", s.add(p, p), BAD);
        }
        Due.is("2: no length", s.add(at(3, 4), at(3, 4)), BAD);
        Due.is("2: no length in the corner", s.add(at(20, 20), at(20, 20)), BAD);
        Due.is("2: nothing was added", s.segments(), 0);
        Due.is("2: corner to corner", s.add(at(0, 0), at(20, 20)), 0);
        Due.is("2: other corners", s.add(at(20, 0), at(0, 20)), 1);
    }

    private static void promise2Refused() {
        int[][] old = {{4, 6, 10, 6}, {6, 4, 6, 10}, {4, 4, 10, 10}, {4, 14, 10, 8}, {4, 4, 10, 7}};
        int[][] overlaps = {{0, 3}, {0, 1}, {1, 2}, {2, 3}, {-1, 1}, {-1, 4}, {2, 4}, {-1, 3}, {0, 4}};
        for (int[] o : old) {
            int dx = (o[2] - o[0]) / 3;
            int dy = o[1] == o[3] ? 0 : (o[3] - o[1]) / 3;
            for (int[] part : overlaps) {
                int from = at(o[0] + part[0] * dx, o[1] + part[0] * dy);
                int to = at(o[0] + part[1] * dx, o[1] + part[1] * dy);
                SegmentSweep s = with(o);
                Due.is("2: overlap " + from + ", " + to, s.add(from, to), REFUSED);
                Due.is("2: overlap turned " + to + ", " + from, s.add(to, from), REFUSED);
                Due.is("2: refused changes nothing", s.segments() == 1 && s.meetings() == 0 && s.pieces() == 1, true);
            }
            SegmentSweep s = with(o);
            Due.is("2: touches", s.add(at(o[2], o[3]), at(o[2] + dx, o[3] + dy)), 1);
            Due.is("2: touches before", s.add(at(o[0] - dx, o[1] - dy), at(o[0], o[1])), 2);
            int far = at(o[2] + 3 * dx, o[3] + 3 * dy);
            Due.is("2: apart in one line", s.add(at(o[2] + 2 * dx, o[3] + 2 * dy), far), 3);
            Due.is("2: overlaps a later one", s.add(at(o[2] + dx, o[3] + dy), far), REFUSED);
        }
    }

    private static void promise2Allowed() {
        SegmentSweep s = with(5, 5, 15, 5);
        Due.is("2: crosses", s.add(at(10, 0), at(10, 10)), 1);
        Due.is("2: parallel beside", s.add(at(5, 6), at(15, 6)), 2);
        Due.is("2: one end in line, one not", s.add(at(5, 5), at(15, 4)), 3);
        Due.is("2: from within", s.add(at(7, 5), at(9, 7)), 4);
        Due.is("2: nearly in line", s.add(at(0, 5), at(20, 4)), 5);
    }

    private static void promise2FullAndOrder() {
        SegmentSweep s = levels(10);
        Due.is("2: full", s.add(at(0, 15), at(4, 15)), FULL);
        Due.is("2: full, touching", s.add(at(4, 9), at(8, 9)), FULL);
        Due.is("2: refused before full", s.add(at(2, 9), at(8, 9)), REFUSED);
        Due.is("2: bad before full", s.add(at(2, 15), at(2, 15)), BAD);
        Due.is("2: bad before full, no point", s.add(21, at(2, 15)), BAD);
        Due.is("2: bad before refused", s.add(at(2, 9), at(2, 9)), BAD);
        Due.is("2: full changes nothing", s.segments() == 1023 && s.pieces() == 10 && s.meetings() == 0, true);
        Due.is("2: room again", s.remove(3), true);
        Due.is("2: the room is used", s.add(at(0, 15), at(4, 15)), 3);
        Due.is("2: full again", s.add(at(0, 16), at(4, 16)), FULL);
    }

    private static void promise2LeastNumber() {
        SegmentSweep s = levels(10);
        for (int k : new int[] {7, 2, 9, 0}) {
            s.remove(k);
        }
        int y = 10;
        for (int k : new int[] {0, 2, 7, 9}) {
            Due.is("2: least number", s.add(at(0, y), at(4, y)), k);
            y++;
        }
        Due.is("2: where the new one is", s.on(at(1, 11)), 4);
        Due.is("2: where the old one was", s.on(at(1, 2)), 0);
    }

    private static void promise3() {
        SegmentSweep s = with(0, 0, 10, 10, 0, 10, 10, 0, 0, 5, 10, 5);
        for (int k : NO_SEGMENTS) {
            Due.is("3: remove " + k, s.remove(k), false);
        }
        Due.is("3: not there", s.remove(3), false);
        Due.is("3: wrong numbers change nothing", s.segments(), 7);
        Due.is("3: there", s.remove(1), true);
        Due.is("3: taken away", s.segments(), 5);
        Due.is("3: away already", s.remove(1), false);
        Due.is("3: what is left meets", s.through(0), 5);
        Due.is("3: no overlap with what is away", s.add(at(1, 9), at(9, 1)), 1);
        s.remove(0);
        s.remove(1);
        Due.is("3: no meeting is left", s.meetings(), 0);
        s.remove(2);
        isEmpty("3: all away", s);
    }

    private static void promise4() {
        SegmentSweep s = new SegmentSweep();
        for (int k = 0; k < 10; k++) {
            s.add(at(k, 0), at(k, 20));
            Due.is("4: after adding " + k, s.segments(), (2 << k) - 1);
        }
        s.remove(0);
        s.remove(9);
        Due.is("4: without both ends", s.segments(), 510);
    }

    private static void promise5() {
        SegmentSweep s = with(0, 0, 10, 10, 0, 10, 10, 0, 10, 10, 15, 15, 3, 3, 3, 0, 12, 0, 20, 0, 20, 1, 20, 9);
        boolean[][] due = new boolean[6][6];
        int[][] pairs = {{0, 1}, {0, 2}, {0, 3}};
        for (int k = 0; k < 6; k++) {
            due[k][k] = true;
        }
        for (int[] pair : pairs) {
            due[pair[0]][pair[1]] = true;
            due[pair[1]][pair[0]] = true;
        }
        for (int j = 0; j < 6; j++) {
            for (int k = 0; k < 6; k++) {
                Due.is("5: meet " + j + ", " + k, s.meet(j, k), due[j][k]);
            }
            for (int none : NO_SEGMENTS) {
                Due.is("5: meet " + j + ", " + none, s.meet(j, none), false);
                Due.is("5: meet " + none + ", " + j, s.meet(none, j), false);
                Due.is("5: meet " + none + ", itself", s.meet(none, none), false);
            }
        }
        Due.is("5: one not there", s.meet(0, 6), false);
        s.remove(1);
        Due.is("5: one taken away", s.meet(0, 1), false);
        Due.is("5: taken away, itself", s.meet(1, 1), false);
        s.add(at(0, 20), at(9, 20));
        Due.is("5: the number's new segment is elsewhere", s.meet(0, 1), false);
        SegmentSweep moved = with(0, 0, 5, 5, 0, 5, 5, 0);
        moved.remove(1);
        moved.add(at(9, 9), at(9, 12));
        Due.is("5: met once, no longer", moved.meet(0, 1), false);
        SegmentSweep near = with(0, 0, 20, 19, 10, 10, 20, 20);
        Due.is("5: near but apart", near.meet(0, 1), false);
        SegmentSweep lines = with(0, 0, 4, 4, 10, 0, 6, 4, 0, 10, 10, 10);
        Due.is("5: the lines cross, the segments don't", lines.meet(0, 1), false);
        Due.is("5: parallel to neither", lines.meet(1, 2), false);
    }

    private static void promise6() {
        Due.is("6: one segment", with(0, 0, 9, 9).meetings(), 0);
        Due.is("6: many in one point", with(0, 0, 10, 10, 0, 10, 10, 0, 5, 0, 5, 10, 0, 5, 10, 5).meetings(), 1);
        Due.is("6: common ends", with(0, 0, 4, 0, 4, 0, 4, 4, 4, 4, 0, 0).meetings(), 3);
        Due.is("6: an end inside", with(0, 0, 4, 0, 2, 0, 2, 4).meetings(), 1);
        Due.is("6: end to end in one line", with(0, 0, 4, 2, 4, 2, 8, 4).meetings(), 1);
        Due.is("6: end to end, upright", with(3, 9, 3, 4, 3, 4, 3, 1).meetings(), 1);
        Due.is("6: a gap in one line", with(0, 0, 4, 2, 6, 3, 8, 4).meetings(), 0);
        SegmentSweep grid = grid();
        Due.is("6: five by five", grid.meetings(), 25);
        SegmentSweep all = mostMeetings();
        Due.is("6: each pair for itself", all.meetings(), 45);
        Due.is("6: the last one has an x", all.bottom(44, 0) >= 1, true);
        Due.is("6: none after the last one", all.top(45, 0), BAD);
    }

    private static void promises7And8() {
        isAt("7: nothing over 1", with(0, 0, 5, 0, 0, 0, 0, 5), 0, 0, 1, 0, 1);
        isAt("7: x is 0", with(0, 4, 0, 9, 0, 8, 5, 5), 0, 0, 1, 8, 1);
        isAt("7: y is 0", with(3, 0, 9, 0, 6, 5, 6, 0), 0, 6, 1, 0, 1);
        isAt("7: the far corner", with(20, 20, 0, 0, 20, 20, 20, 0), 0, 20, 1, 20, 1);
        isAt("7: halves", with(0, 0, 5, 5, 0, 5, 5, 0), 0, 5, 2, 5, 2);
        isAt("7: whole x, half y", with(1, 0, 1, 5, 0, 0, 2, 5), 0, 1, 1, 5, 2);
        isAt("7: half x, whole y", with(0, 1, 5, 1, 0, 0, 5, 2), 0, 5, 2, 1, 1);
        isAt("7: unlike bottoms", with(0, 0, 6, 4, 0, 3, 6, 2), 0, 18, 5, 12, 5);
        isAt("7: great numbers", with(0, 0, 20, 19, 0, 20, 19, 0), 0, 7600, 761, 7220, 761);
        isAt("7: turned ends", with(20, 19, 0, 0, 19, 0, 0, 20), 0, 7600, 761, 7220, 761);
        isAt("7: other order", with(19, 0, 0, 20, 0, 0, 20, 19), 0, 7600, 761, 7220, 761);
        isAt("7: end to end", with(2, 1, 4, 2, 6, 3, 4, 2), 0, 4, 1, 2, 1);
        isAt("7: end to end, the later one first", with(6, 3, 4, 2, 2, 1, 4, 2), 0, 4, 1, 2, 1);
        isAt("7: end to end, upright", with(7, 9, 7, 6, 7, 6, 7, 0), 0, 7, 1, 6, 1);
    }

    private static void promises7And8Order() {
        SegmentSweep s = with(
                1, 0, 1, 20, // upright, crossed at 5/2, 5/3, 15 and 2
                0, 15, 9, 15, 0, 0, 2, 5, 0, 0, 3, 5, 1, 2, 2, 4,
                17, 3, 19, 3, 18, 0, 18, 9);
        Due.is("7: order, meetings", s.meetings(), 6);
        isAt("7: order, 0", s, 0, 0, 1, 0, 1);
        isAt("7: order, 1", s, 1, 1, 1, 5, 3);
        isAt("7: order, 2", s, 2, 1, 1, 2, 1);
        isAt("7: order, 3", s, 3, 1, 1, 5, 2);
        isAt("7: order, 4", s, 4, 1, 1, 15, 1);
        isAt("7: order, 5", s, 5, 18, 1, 3, 1);
        Due.is("7: order, segments of 0", s.through(0), 4 + 8);
        Due.is("7: order, segments of 1", s.through(1), 1 + 8);
        Due.is("7: order, segments of 2", s.through(2), 1 + 16);
        Due.is("7: order, segments of 3", s.through(3), 1 + 4);
        Due.is("7: order, segments of 4", s.through(4), 1 + 2);
        Due.is("7: order, segments of 5", s.through(5), 32 + 64);
        s.remove(0);
        Due.is("7: order, meetings after a removal", s.meetings(), 2);
        isAt("7: order, after a removal", s, 1, 18, 1, 3, 1);
        // x comes before y: 10/3 at y = 18 is before 7/2 at y = 1.
        SegmentSweep x = with(3, 0, 4, 2, 3, 1, 9, 1, 3, 17, 4, 20, 3, 18, 9, 18);
        isAt("7: x first, 0", x, 0, 10, 3, 18, 1);
        isAt("7: x first, 1", x, 1, 7, 2, 1, 1);
    }

    private static void promises7And8Wrong() {
        SegmentSweep s = with(0, 0, 5, 5, 0, 5, 5, 0);
        for (int i : NO_MEETINGS) {
            Due.is("7: top of " + i, s.top(i, 0), BAD);
            Due.is("8: bottom of " + i, s.bottom(i, 1), BAD);
        }
        Due.is("7: top of 1", s.top(1, 0), BAD);
        Due.is("8: bottom of 1", s.bottom(1, 0), BAD);
        for (int axis : NO_AXES) {
            Due.is("7: top, axis " + axis, s.top(0, axis), BAD);
            Due.is("8: bottom, axis " + axis, s.bottom(0, axis), BAD);
            Due.is("7: top of none, axis " + axis, s.top(1, axis), BAD);
            Due.is("8: bottom of none, axis " + axis, s.bottom(1, axis), BAD);
        }
        s.remove(0);
        Due.is("7: top of one that is gone", s.top(0, 0), BAD);
        Due.is("8: bottom of one that is gone", s.bottom(0, 0), BAD);
    }

    private static void promise9() {
        SegmentSweep s = with(0, 0, 10, 10, 0, 10, 10, 0, 5, 5, 5, 9, 5, 5, 9, 5, 8, 2, 20, 2, 7, 7, 7, 5);
        Due.is("9: meetings", s.meetings(), 4);
        Due.is("9: an end of two, inside two", s.through(0), 15);
        Due.is("9: an end inside", s.through(1), 8 + 32);
        Due.is("9: same x, greater y", s.through(2), 1 + 32);
        Due.is("9: last", s.through(3), 2 + 16);
        Due.is("9: none", s.through(4), BAD);
        for (int i : NO_MEETINGS) {
            Due.is("9: through " + i, s.through(i), BAD);
        }
        s.remove(0);
        Due.is("9: without 0", s.through(0), 14);
        SegmentSweep star = star();
        Due.is("9: all ten", star.through(0), 1023);
        star.remove(9);
        Due.is("9: nine", star.through(0), 511);
    }

    private static void promise10() {
        SegmentSweep s = with(0, 5, 20, 5, 3, 0, 3, 9, 6, 5, 6, 9, 0, 0, 0, 5, 18, 3, 20, 5, 6, 5, 8, 1, 10, 9, 12, 9);
        int[] due = {4, 1, 1, 1, 1, 1, 0};
        for (int k = 0; k < due.length; k++) {
            Due.is("10: degree " + k, s.degree(k), due[k]);
        }
        for (int k = 7; k < 10; k++) {
            Due.is("10: not there " + k, s.degree(k), BAD);
        }
        for (int k : NO_SEGMENTS) {
            Due.is("10: degree " + k, s.degree(k), BAD);
        }
        s.remove(2);
        Due.is("10: taken away", s.degree(2), BAD);
        Due.is("10: another one still meets there", s.degree(0), 4);
        s.remove(5);
        Due.is("10: now none does", s.degree(0), 3);
    }

    private static void promise11() {
        SegmentSweep s = with(2, 2, 8, 5, 4, 0, 4, 20, 0, 3, 20, 3, 2, 2, 0, 2);
        Due.is("11: inside three", s.on(at(4, 3)), 7);
        Due.is("11: end of two", s.on(at(2, 2)), 9);
        Due.is("11: other end", s.on(at(8, 5)), 1);
        Due.is("11: upright ends", s.on(at(4, 0)) == 2 && s.on(at(4, 20)) == 2, true);
        Due.is("11: level ends", s.on(at(0, 3)) == 4 && s.on(at(20, 3)) == 4, true);
        Due.is("11: in line, before", s.on(at(0, 1)), 0);
        Due.is("11: in line, behind", s.on(at(10, 6)), 0);
        Due.is("11: level line, behind", s.on(at(3, 2)), 0);
        Due.is("11: in the box, beside", s.on(at(5, 4)), 0);
        Due.is("11: nowhere", s.on(at(20, 20)), 0);
        SegmentSweep upright = with(4, 5, 4, 9);
        Due.is("11: upright line, before", upright.on(at(4, 4)), 0);
        Due.is("11: upright line, behind", upright.on(at(4, 10)), 0);
        for (int p : NO_POINTS) {
            Due.is("11: on " + p, s.on(p), BAD);
            Due.is("12: above " + p, s.above(p), BAD);
            Due.is("13: below " + p, s.below(p), BAD);
        }
        s.remove(0);
        Due.is("11: taken away", s.on(at(4, 3)), 6);
    }

    private static void promise12() {
        SegmentSweep s = with(0, 10, 20, 10, 0, 6, 10, 7, 4, 8, 4, 9, 10, 7, 20, 6, 10, 7, 12, 20);
        Due.is("12: the lower one", s.above(at(2, 0)), 1);
        Due.is("12: uprights don't count", s.above(at(4, 7)), 0);
        Due.is("12: not itself", s.above(at(0, 6)), 0);
        Due.is("12: at its end", s.above(at(0, 5)), 1);
        Due.is("12: of several the least number", s.above(at(10, 5)), 1);
        Due.is("12: on several", s.above(at(10, 7)), 0);
        Due.is("12: at the far end", s.above(at(20, 0)), 3);
        Due.is("12: only a steep one", s.above(at(12, 11)), 4);
        Due.is("12: none is higher", s.above(at(12, 20)), BAD);
        Due.is("12: at the rim", s.above(at(0, 20)), BAD);
        s.remove(1);
        Due.is("12: the next number", s.above(at(10, 5)), 3);
        SegmentSweep near = with(0, 6, 19, 5, 0, 6, 20, 5, 0, 6, 18, 5);
        Due.is("12: the least of near heights", near.above(at(1, 5)), 2);
        Due.is("12: none beside its ends", near.above(at(20, 5)), BAD);
        Due.is("12: least number at the common end", near.above(at(0, 0)), 0);
        Due.is("12: beside", with(5, 5, 9, 9).above(at(4, 0)), BAD);
        Due.is("12: behind", with(5, 5, 9, 9).above(at(10, 0)), BAD);
        Due.is("12: a bit above", with(0, 0, 20, 1).above(at(1, 0)), 0);
        Due.is("12: an upright alone", with(5, 5, 5, 9).above(at(5, 0)), BAD);
    }

    private static void promise13() {
        SegmentSweep s = with(0, 10, 20, 10, 0, 14, 10, 13, 4, 12, 4, 11, 10, 13, 20, 14, 10, 13, 12, 0);
        Due.is("13: the higher one", s.below(at(2, 20)), 1);
        Due.is("13: uprights don't count", s.below(at(4, 13)), 0);
        Due.is("13: not itself", s.below(at(0, 14)), 0);
        Due.is("13: at its end", s.below(at(0, 15)), 1);
        Due.is("13: of several the least number", s.below(at(10, 15)), 1);
        Due.is("13: on several", s.below(at(10, 13)), 0);
        Due.is("13: at the far end", s.below(at(20, 20)), 3);
        Due.is("13: only a steep one", s.below(at(12, 9)), 4);
        Due.is("13: none is lower", s.below(at(12, 0)), BAD);
        Due.is("13: at the rim", s.below(at(0, 0)), BAD);
        s.remove(1);
        Due.is("13: the next number", s.below(at(10, 15)), 3);
        SegmentSweep near = with(0, 5, 19, 6, 0, 5, 20, 6, 0, 5, 18, 6);
        Due.is("13: the greatest of near heights", near.below(at(1, 6)), 2);
        Due.is("13: none beside its ends", near.below(at(20, 6)), BAD);
        Due.is("13: least number at the common end", near.below(at(0, 20)), 0);
        Due.is("13: beside", with(5, 5, 9, 9).below(at(4, 20)), BAD);
        Due.is("13: behind", with(5, 5, 9, 9).below(at(10, 20)), BAD);
        Due.is("13: a bit below", with(0, 19, 20, 20).below(at(19, 20)), 0);
        Due.is("13: an upright alone", with(5, 5, 5, 9).below(at(5, 20)), BAD);
    }

    private static void promise14() {
        Due.is("14: one", with(0, 0, 9, 9).pieces(), 1);
        Due.is("14: a cross", with(0, 0, 5, 5, 0, 5, 5, 0).pieces(), 4);
        Due.is("14: a T", with(0, 0, 4, 0, 2, 0, 2, 4).pieces(), 3);
        Due.is("14: an L", with(0, 0, 4, 0, 4, 0, 4, 4).pieces(), 2);
        Due.is("14: end to end", with(0, 0, 4, 2, 4, 2, 8, 4).pieces(), 2);
        Due.is("14: three through one point", with(0, 0, 10, 10, 0, 10, 10, 0, 5, 0, 5, 10).pieces(), 6);
        Due.is("14: cut where another two end", with(0, 5, 10, 5, 5, 5, 5, 9, 5, 5, 6, 0).pieces(), 4);
        Due.is("14: one cut twice", with(0, 5, 10, 5, 3, 0, 3, 9, 7, 0, 7, 9).pieces(), 7);
        // The tops alone, without their bottoms, would be an end: (5/2, 1) is not (5, 1).
        Due.is("14: x like an end but for its bottom", with(0, 1, 5, 1, 2, 0, 3, 2).pieces(), 4);
        Due.is("14: y like an end but for its bottom", with(1, 0, 1, 5, 0, 2, 2, 3).pieces(), 4);
        SegmentSweep s = with(0, 0, 5, 5, 0, 5, 5, 0);
        s.remove(0);
        Due.is("14: whole again", s.pieces(), 1);
        Due.is("14: ten apart", levels(10).pieces(), 10);
    }

    private static void promise15() {
        Due.is("15: one alone", with(0, 0, 9, 9).groups(), 1);
        Due.is("15: ten apart", levels(10).groups(), 10);
        SegmentSweep chain = new SegmentSweep();
        // Neighbours in the chain have numbers far from each other.
        for (int i : new int[] {0, 2, 4, 6, 8, 9, 7, 5, 3, 1}) {
            chain.add(at(2 * i, i % 2), at(2 * i + 2, (i + 1) % 2));
        }
        Due.is("15: a chain", chain.groups(), 1);
        Due.is("15: a link away", chain.remove(2), true);
        Due.is("15: a chain without a link", chain.groups(), 2);
        chain.remove(4);
        Due.is("15: a chain without two", chain.groups(), 3);
        SegmentSweep back = new SegmentSweep();
        for (int i = 9; i >= 0; i--) {
            back.add(at(2 * i, i % 2), at(2 * i + 2, (i + 1) % 2));
        }
        Due.is("15: a chain from behind", back.groups(), 1);
        Due.is("15: one inside another's face", with(0, 0, 9, 0, 9, 0, 0, 9, 0, 9, 0, 0, 1, 1, 2, 2).groups(), 2);
        Due.is("15: two crosses", with(0, 0, 5, 5, 9, 0, 14, 5, 0, 5, 5, 0, 9, 5, 14, 0).groups(), 2);
    }

    private static void promise16() {
        Due.is("16: one", with(0, 0, 9, 9).faces(), 0);
        Due.is("16: a cross", with(0, 0, 5, 5, 0, 5, 5, 0).faces(), 0);
        int[] triangle = {0, 0, 9, 0, 9, 0, 0, 9, 0, 9, 0, 0};
        Due.is("16: a triangle", with(triangle).faces(), 1);
        Due.is("16: an open triangle", with(0, 0, 9, 0, 9, 0, 0, 9, 0, 9, 0, 1).faces(), 0);
        Due.is("16: a triangle of crossings", with(0, 1, 9, 1, 1, 0, 1, 9, 0, 7, 7, 0).faces(), 1);
        Due.is("16: three through a point", with(0, 0, 10, 10, 0, 10, 10, 0, 5, 0, 5, 10).faces(), 0);
        SegmentSweep s = with(triangle);
        s.add(at(1, 1), at(2, 2));
        Due.is("16: a segment inside parts nothing", s.faces(), 1);
        s.add(at(0, 0), at(1, 1));
        Due.is("16: joined to the rim, too", s.faces(), 1);
        s.add(at(2, 2), at(3, 6));
        Due.is("16: from rim to rim", s.faces(), 2);
        s.remove(0);
        Due.is("16: the rim is open", s.faces(), 1);
        int[] nested = {0, 0, 20, 0, 20, 0, 0, 20, 0, 20, 0, 0, 2, 2, 6, 2, 6, 2, 2, 6, 2, 6, 2, 2};
        Due.is("16: a triangle in a triangle", with(nested).faces(), 2);
        int[] apart = {0, 0, 4, 0, 4, 0, 0, 4, 0, 4, 0, 0, 9, 9, 9, 5, 9, 5, 5, 9, 5, 9, 9, 9};
        Due.is("16: two apart", with(apart).faces(), 2);
        int[] corner = {4, 4, 4, 0, 4, 0, 0, 4, 0, 4, 4, 4, 4, 4, 8, 4, 8, 4, 4, 8, 4, 8, 4, 4};
        Due.is("16: two at one corner", with(corner).faces(), 2);
    }

    private static void promise16Grid() {
        SegmentSweep grid = grid();
        Due.is("16: five by five", grid.faces(), 16);
        Due.is("14: five by five", grid.pieces(), 60);
        Due.is("15: five by five", grid.groups(), 1);
        grid.remove(4);
        Due.is("16: four by five", grid.faces(), 12);
        SegmentSweep all = mostMeetings();
        // Ten lines in general place part the plane into 36 bounded faces and 100 pieces; all crossings lie inside.
        Due.is("16: ten in general place", all.faces(), 36);
        Due.is("14: ten in general place", all.pieces(), 100);
    }
}
