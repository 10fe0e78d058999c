import java.util.HashSet;
import java.util.Set;

/** A test for each sentence of "What it is" and "Terms" that names a boundary; above each one stand its words. */
public final class TermsTest extends Drawings {
    public static void main(String[] args) {
        exactlyMet();
        exactlyNotMet();
        atMost512Calls();
        atMostTenSegments();
        numbersZeroToNine();
        twoDifferentEnds();
        wholeXAndYFromZeroToTwenty();
        everyTwoPointsCanBeEnds();
        writtenAsXPlus32Y();
        hasItsEnds();
        noMoreThanOnePointInCommon();
        onAtLeastTwoSegments();
        noCommonDivisor();
        bottomAtLeastOne();
        numberedByX();
        sameXByY();
        uprightWhenSameX();
        cutIntoPieces();
        inOneGroupWhenTheyMeet();
        inOneGroupWithAThird();
        faceIsAGreatestPart();
        oneFaceIsUnbounded();
        Due.end();
    }

    /** "Finds all points in which segments of the plane meet, exactly" */
    private static void exactlyMet() {
        SegmentSweep one = with(3, 6, 10, 4, 4, 3, 13, 15, 6, 2, 5, 12, 2, 17, 7, 1);
        Due.is("exactly: four in one point", one.meetings(), 1);
        Due.is("exactly: all four", one.through(0), 15);
        isAt("exactly: four in one point", one, 0, 193, 34, 89, 17);
        SegmentSweep three = with(9, 4, 18, 20, 15, 6, 4, 19, 1, 7, 19, 11);
        Due.is("exactly: three that nearly are one", three.meetings(), 3);
        isAt("exactly: nearly one, 0", three, 0, 169, 14, 596, 63);
        isAt("exactly: nearly one, 1", three, 1, 3537, 293, 2772, 293);
        isAt("exactly: nearly one, 2", three, 2, 1678, 139, 1315, 139);
        Due.is("exactly: the face between the three", three.faces(), 1);
    }

    /** "exactly": what nearly meets does not meet. */
    private static void exactlyNotMet() {
        // (1, 1) and (19, 18) are as near to the line from (0, 0) to (20, 19) as a point that is not on it can be.
        int[][] near = {{1, 1, 0, 20}, {1, 1, 1, 20}, {1, 1, 2, 20}, {19, 18, 18, 0}, {19, 18, 19, 0}, {19, 18, 20, 0}};
        for (int[] ends : near) {
            int one = at(ends[0], ends[1]);
            int other = at(ends[2], ends[3]);
            SegmentSweep after = with(0, 0, 20, 19);
            Due.is("exactly: nearly met", after.add(one, other) == 1 && !after.meet(0, 1), true);
            SegmentSweep before = with(ends);
            Due.is("exactly: nearly met by a later one", before.add(0, at(20, 19)) == 1 && !before.meet(0, 1), true);
        }
    }

    /** "An object is used for at most 512 calls after it has been made" */
    private static void atMost512Calls() {
        Due.is("512: the last call is a change", after511Calls().add(at(0, 5), at(5, 0)), 1);
        Due.is("512: the last call is a question", after511Calls().on(at(5, 5)), 1);
        Due.is("512: the last call is a wrong one", after511Calls().remove(1), false);
        Due.is("512: the last call is refused", after511Calls().add(at(1, 1), at(2, 2)), REFUSED);
    }

    private static SegmentSweep after511Calls() {
        SegmentSweep s = with(0, 0, 5, 5);
        for (int round = 0; round < 255; round++) {
            Due.is("512: add in round " + round, s.add(at(0, 5), at(5, 0)), 1);
            Due.is("512: remove in round " + round, s.remove(1), true);
        }
        return s;
    }

    /** "There are at most ten SEGMENTS" */
    private static void atMostTenSegments() {
        SegmentSweep s = levels(9);
        Due.is("ten: the tenth", s.add(at(0, 9), at(4, 9)), 9);
        Due.is("ten: ten are there", s.segments(), 1023);
        Due.is("ten: no eleventh", s.add(at(0, 10), at(4, 10)), FULL);
        Due.is("ten: still ten", s.segments(), 1023);
        Due.is("ten: the eleventh is nowhere", s.on(at(2, 10)), 0);
    }

    /** "with numbers 0 .. 9" */
    private static void numbersZeroToNine() {
        SegmentSweep s = levels(10);
        for (int k = 0; k <= 9; k++) {
            Due.is("numbers: degree " + k, s.degree(k), 0);
            Due.is("numbers: meet " + k, s.meet(k, k), true);
        }
        for (int k : new int[] {-1, 10}) {
            Due.is("numbers: degree " + k, s.degree(k), BAD);
            Due.is("numbers: meet " + k, s.meet(k, k), false);
            Due.is("numbers: remove " + k, s.remove(k), false);
        }
        for (int k = 0; k <= 9; k++) {
            Due.is("numbers: remove " + k, s.remove(k), true);
        }
        Due.is("numbers: no others are left", s.segments(), 0);
    }

    /** "a segment joins two different ENDS" */
    private static void twoDifferentEnds() {
        for (int x = 0; x <= 20; x++) {
            for (int y = 0; y <= 20; y++) {
                Due.is("different: " + x + ", " + y, new SegmentSweep().add(at(x, y), at(x, y)), BAD);
            }
        }
        Due.is("different: in x by 1", new SegmentSweep().add(at(7, 7), at(8, 7)), 0);
        Due.is("different: in y by 1", new SegmentSweep().add(at(7, 7), at(7, 8)), 0);
        Due.is("different: x and y exchanged", new SegmentSweep().add(at(7, 8), at(8, 7)), 0);
    }

    private static Set<Integer> points() {
        Set<Integer> points = new HashSet<>();
        for (int x = 0; x <= 20; x++) {
            for (int y = 0; y <= 20; y++) {
                points.add(x + 32 * y);
            }
        }
        return points;
    }

    /** "points with whole x and y from 0 to 20" */
    private static void wholeXAndYFromZeroToTwenty() {
        Set<Integer> points = points();
        for (int p = -3000; p <= 3000; p++) {
            isPointOrNot(p, points.contains(p));
        }
        // One more bit makes each point none: also the highest bits, which a multiplication would lose.
        for (int bit = 10; bit < 32; bit++) {
            for (int p : new int[] {0, 1, 20, at(0, 20), at(20, 20), at(10, 9)}) {
                isPointOrNot(p | 1 << bit, false);
            }
        }
        isPointOrNot(MOST, false);
        isPointOrNot(LEAST, false);
    }

    private static void isPointOrNot(int p, boolean isPoint) {
        // At y = 10 there is a segment that is above, below or on every point.
        SegmentSweep s = with(0, 10, 20, 10);
        boolean isLower = isPoint && p < at(0, 10);
        boolean isHigher = isPoint && p >= at(0, 11);
        Due.is("point: on " + p, s.on(p), isPoint ? isLower || isHigher ? 0 : 1 : BAD);
        Due.is("point: above " + p, s.above(p), isLower ? 0 : BAD);
        Due.is("point: below " + p, s.below(p), isHigher ? 0 : BAD);
        int other = p == at(5, 3) ? at(6, 3) : at(5, 3);
        Due.is("point: first end " + p, s.add(p, other), isPoint ? 1 : BAD);
        Due.is("point: meeting of " + p, s.meetings(), isPoint && !isLower ? 1 : 0);
        Due.is("point: away " + p, s.remove(1), isPoint);
        Due.is("point: second end " + p, s.add(other, p), isPoint ? 1 : BAD);
    }

    /** "a segment joins two different ENDS, points with whole x and y from 0 to 20": any two of them. */
    private static void everyTwoPointsCanBeEnds() {
        Set<Integer> points = points();
        for (int one : points) {
            for (int other : points) {
                SegmentSweep s = new SegmentSweep();
                Due.is("ends " + one + ", " + other, s.add(one, other), one == other ? BAD : 0);
                Due.is("one end of " + one + ", " + other, s.on(one), one == other ? 0 : 1);
                Due.is("other end of " + one + ", " + other, s.on(other), one == other ? 0 : 1);
            }
        }
    }

    /** "written as x + 32 * y" */
    private static void writtenAsXPlus32Y() {
        SegmentSweep s = new SegmentSweep();
        Due.is("written: from (3, 5) to (7, 5)", s.add(163, 167), 0);
        Due.is("written: (5, 5)", s.on(165), 1);
        Due.is("written: (5, 3)", s.on(101), 0);
        Due.is("written: (3, 6) is above it", s.below(195), 0);
        Due.is("written: upright from (5, 4) to (5, 8)", s.add(133, 261), 1);
        isAt("written: x is first", s, 0, 5, 1, 5, 1);
        Due.is("written: level from (4, 7) to (6, 7)", s.add(228, 230), 2);
        isAt("written: y is second", s, 1, 5, 1, 7, 1);
    }

    /** "and has its ends" */
    private static void hasItsEnds() {
        int[][] all = {{3, 4, 9, 4}, {3, 4, 3, 9}, {3, 4, 9, 9}, {3, 9, 9, 4}, {4, 3, 5, 9}};
        for (int[] ends : all) {
            SegmentSweep s = with(ends);
            Due.is("ends: on one", s.on(at(ends[0], ends[1])), 1);
            Due.is("ends: on other", s.on(at(ends[2], ends[3])), 1);
            int upright = ends[0] == ends[2] ? BAD : 0;
            Due.is("ends: one is above", s.above(at(ends[0], ends[1] - 1)), upright);
            Due.is("ends: other is above", s.above(at(ends[2], ends[3] - 1)), upright);
            Due.is("ends: one is below", s.below(at(ends[0], ends[1] + 1)), upright);
            Due.is("ends: other is below", s.below(at(ends[2], ends[3] + 1)), upright);
            Due.is("ends: end at one", s.add(at(ends[0], ends[1]), at(0, 0)), 1);
            Due.is("ends: end at other", s.add(at(20, 1), at(ends[2], ends[3])), 2);
            Due.is("ends: both meet", s.meet(0, 1) && s.meet(2, 0), true);
            Due.is("ends: two meeting points", s.degree(0), 2);
        }
    }

    /** "No two segments have more than one point in common." */
    private static void noMoreThanOnePointInCommon() {
        SegmentSweep s = with(5, 5, 10, 5);
        Due.is("in common: all", s.add(at(5, 5), at(10, 5)), REFUSED);
        Due.is("in common: all, turned", s.add(at(10, 5), at(5, 5)), REFUSED);
        Due.is("in common: a part", s.add(at(9, 5), at(11, 5)), REFUSED);
        Due.is("in common: one, an end of both", s.add(at(10, 5), at(11, 5)), 1);
        Due.is("in common: one, an end of the new one", s.add(at(7, 5), at(7, 6)), 2);
        Due.is("in common: one, an end of the old one", s.add(at(4, 4), at(6, 6)), 3);
        Due.is("in common: one, inside both", s.add(at(8, 4), at(9, 6)), 4);
        Due.is("in common: none, in one line", s.add(at(12, 5), at(13, 5)), 5);
    }

    /** "A MEETING point is a point that is on at least two segments" */
    private static void onAtLeastTwoSegments() {
        SegmentSweep s = with(0, 0, 10, 10);
        Due.is("at least two: one", s.meetings(), 0);
        s.add(at(0, 10), at(10, 0));
        Due.is("at least two: two", s.meetings(), 1);
        s.add(at(5, 5), at(5, 9));
        Due.is("at least two: three are one point", s.meetings(), 1);
        s.remove(0);
        Due.is("at least two: two are left", s.through(0), 6);
        s.remove(1);
        Due.is("at least two: one is left", s.meetings(), 0);
        Due.is("at least two: the lines alone cross", with(0, 0, 4, 4, 10, 0, 6, 4).meetings(), 0);
        Due.is("at least two: just before it", with(0, 0, 10, 0, 5, 1, 5, 9).meetings(), 0);
    }

    private static int commonDivisor(int a, int b) {
        return b == 0 ? a : commonDivisor(b, a % b);
    }

    private static void isInLowestTerms(String what, SegmentSweep s) {
        int count = s.meetings();
        Due.is(what + " has meeting points", count > 0, true);
        for (int i = 0; i < count; i++) {
            for (int axis = 0; axis < 2; axis++) {
                int bottom = s.bottom(i, axis);
                Due.is(what + ": bottom " + i + ", " + axis + " is at least 1", bottom >= 1, true);
                Due.is(what + ": divisor " + i + ", " + axis, commonDivisor(s.top(i, axis), bottom), 1);
            }
        }
    }

    /** "with a TOP and a BOTTOM that have no common divisor" */
    private static void noCommonDivisor() {
        isInLowestTerms("most meetings", mostMeetings());
        isInLowestTerms("grid", grid());
        isInLowestTerms("star", star());
        isAt("divisor: 0 is 0 over 1", with(0, 3, 0, 9, 0, 7, 3, 5), 0, 0, 1, 7, 1);
        isAt("divisor: 0 is 0 over 1 for y", with(3, 0, 9, 0, 7, 0, 5, 3), 0, 7, 1, 0, 1);
        isAt("divisor: whole", with(0, 0, 20, 20, 0, 20, 20, 0), 0, 10, 1, 10, 1);
        isAt("divisor: x and y have their own", with(2, 0, 4, 6, 0, 1, 20, 1), 0, 7, 3, 1, 1);
        isAt("divisor: y and x have their own", with(0, 2, 6, 4, 1, 0, 1, 20), 0, 1, 1, 7, 3);
        isAt("divisor: neither is whole", with(0, 10, 19, 12, 19, 5, 10, 19), 0, 4199, 284, 1641, 142);
        isAt("divisor: the greatest bottom", with(0, 1, 20, 20, 0, 20, 19, 0), 0, 7220, 761, 7620, 761);
    }

    /** "the bottom at least 1": however the segments are told. */
    private static void bottomAtLeastOne() {
        int[] a = {0, 0, 20, 19};
        int[] b = {0, 20, 19, 0};
        for (int turned = 0; turned < 8; turned++) {
            int[] one = (turned & 1) == 0 ? a : new int[] {a[2], a[3], a[0], a[1]};
            int[] two = (turned & 2) == 0 ? b : new int[] {b[2], b[3], b[0], b[1]};
            int[] first = (turned & 4) == 0 ? one : two;
            int[] second = (turned & 4) == 0 ? two : one;
            SegmentSweep s = with(first);
            s.add(at(second[0], second[1]), at(second[2], second[3]));
            isAt("bottom: turned " + turned, s, 0, 7600, 761, 7220, 761);
        }
        isAt("bottom: the shortest", with(7, 7, 8, 7, 7, 7, 7, 8), 0, 7, 1, 7, 1);
        isAt("bottom: the shortest, turned", with(7, 7, 7, 8, 7, 7, 8, 7), 0, 7, 1, 7, 1);
        isAt("bottom: upright and level", with(4, 20, 4, 0, 20, 6, 0, 6), 0, 4, 1, 6, 1);
        isAt("bottom: end to end", with(9, 3, 6, 2, 6, 2, 0, 0), 0, 6, 1, 2, 1);
    }

    /** "Meeting points are numbered 0, 1, .. by their x" */
    private static void numberedByX() {
        // The two in the middle differ in x by 1 / 144303, and the one with the lesser x has the greater y.
        int[][] near = {{4, 20, 20, 5}, {14, 18, 1, 1}, {9, 7, 19, 18}, {1, 14, 20, 4}};
        int[][] orders = {{0, 1, 2, 3}, {2, 3, 0, 1}, {3, 1, 0, 2}};
        for (int[] order : orders) {
            SegmentSweep s = new SegmentSweep();
            for (int k : order) {
                s.add(at(near[k][0], near[k][1]), at(near[k][2], near[k][3]));
            }
            Due.is("by x: count", s.meetings(), 4);
            isAt("by x: 0", s, 0, 3664, 453, 4652, 453);
            isAt("by x: 1", s, 1, 5004, 467, 6400, 467);
            isAt("by x: 2", s, 2, 3311, 309, 2746, 309);
            isAt("by x: 3", s, 3, 2132, 163, 3745, 326);
            Due.is("by x: 0 is there, -1 not", s.through(0) != BAD && s.through(-1) == BAD, true);
            Due.is("by x: 3 is there, 4 not", s.through(3) != BAD && s.through(4) == BAD, true);
        }
        // 5/2, 3 and 10/3: neither the tops nor the bottoms alone are in this order.
        SegmentSweep s = with(0, 1, 20, 1, 3, 0, 4, 3, 3, 1, 4, 9, 2, 0, 3, 2);
        isAt("by x: fractions, 0", s, 0, 5, 2, 1, 1);
        isAt("by x: fractions, 1", s, 1, 3, 1, 1, 1);
        isAt("by x: fractions, 2", s, 2, 10, 3, 1, 1);
    }

    /** "those with the same x by their y" */
    private static void sameXByY() {
        SegmentSweep s = with(10, 20, 10, 0, 9, 10, 11, 10, 8, 3, 11, 4, 9, 3, 12, 4, 9, 0, 11, 7);
        Due.is("by y: count", s.meetings(), 6);
        isAt("by y: before them", s, 0, 189, 19, 63, 19);
        isAt("by y: 1", s, 1, 10, 1, 10, 3);
        isAt("by y: 2", s, 2, 10, 1, 7, 2);
        isAt("by y: 3", s, 3, 10, 1, 11, 3);
        isAt("by y: 4", s, 4, 10, 1, 10, 1);
        isAt("by y: after them", s, 5, 191, 19, 70, 19);
        // The same x that is not whole: 5/2, at 1, 5/2 and 4.
        SegmentSweep half = with(1, 4, 4, 4, 0, 0, 5, 5, 2, 5, 3, 3, 0, 5, 5, 0, 1, 1, 4, 1, 2, 2, 3, 0);
        Due.is("by y: half, count", half.meetings(), 9);
        isAt("by y: half, before them", half, 2, 2, 1, 2, 1);
        isAt("by y: half, 3", half, 3, 5, 2, 1, 1);
        isAt("by y: half, 4", half, 4, 5, 2, 5, 2);
        isAt("by y: half, 5", half, 5, 5, 2, 4, 1);
        isAt("by y: half, after them", half, 6, 3, 1, 3, 1);
    }

    /** "A segment is UPRIGHT when its ends have the same x." */
    private static void uprightWhenSameX() {
        SegmentSweep upright = with(5, 5, 5, 15);
        for (int y = 0; y <= 20; y++) {
            Due.is("upright: above " + y, upright.above(at(5, y)), BAD);
            Due.is("upright: below " + y, upright.below(at(5, y)), BAD);
        }
        SegmentSweep steep = with(5, 0, 6, 20);
        Due.is("upright: steep, at its low end", steep.below(at(5, 1)), 0);
        Due.is("upright: steep, at its high end", steep.above(at(6, 19)), 0);
        Due.is("upright: steep, not between them", steep.above(at(5, 1)), BAD);
        Due.is("upright: steep, not between them, below", steep.below(at(6, 19)), BAD);
        SegmentSweep level = with(5, 9, 6, 9);
        Due.is("upright: the same y is not the same x", level.above(at(5, 8)), 0);
    }

    /** "The ends and the meeting points cut the segments into PIECES." */
    private static void cutIntoPieces() {
        Due.is("pieces: its ends alone", with(0, 0, 20, 0).pieces(), 1);
        Due.is("pieces: met at one end", with(0, 0, 20, 0, 20, 0, 20, 5).pieces(), 2);
        Due.is("pieces: met at both ends", with(0, 0, 20, 0, 20, 0, 20, 5, 0, 0, 0, 5).pieces(), 3);
        Due.is("pieces: an end inside", with(0, 0, 20, 0, 10, 0, 10, 5).pieces(), 3);
        Due.is("pieces: two ends inside at one point", with(0, 5, 20, 5, 10, 5, 10, 9, 10, 5, 10, 0).pieces(), 4);
        Due.is("pieces: inside both", with(0, 5, 20, 5, 10, 0, 10, 9).pieces(), 4);
        Due.is("pieces: end to end in one line", with(0, 0, 5, 0, 5, 0, 10, 0).pieces(), 2);
        Due.is("pieces: just before an end", with(0, 0, 20, 0, 19, 0, 19, 5).pieces(), 3);
        Due.is("pieces: the most", mostMeetings().pieces(), 100);
        Due.is("pieces: a star", star().pieces(), 10);
    }

    /** "Two segments are in one GROUP when they meet" */
    private static void inOneGroupWhenTheyMeet() {
        Due.is("group: inside both", with(0, 0, 10, 10, 0, 10, 10, 0).groups(), 1);
        Due.is("group: at an end of one", with(0, 0, 10, 0, 5, 0, 5, 5).groups(), 1);
        Due.is("group: at an end of both", with(0, 0, 10, 0, 10, 0, 10, 5).groups(), 1);
        Due.is("group: end to end in one line", with(0, 0, 4, 4, 4, 4, 8, 8).groups(), 1);
        Due.is("group: nearly", with(0, 0, 20, 19, 19, 18, 20, 0).groups(), 2);
        Due.is("group: in one line, apart", with(0, 0, 4, 4, 5, 5, 8, 8).groups(), 2);
    }

    /** "or each is in one group with a third one" */
    private static void inOneGroupWithAThird() {
        SegmentSweep s = with(0, 0, 0, 9, 5, 0, 5, 9);
        Due.is("third: not yet", s.groups(), 2);
        s.add(at(0, 5), at(5, 5));
        Due.is("third: there", s.groups(), 1);
        Due.is("third: the two still don't meet", s.meet(0, 1), false);
        s.remove(2);
        Due.is("third: away", s.groups(), 2);
        // Ten in a row, and each number's neighbours far from it, so that no one pass over them joins all.
        SegmentSweep row = new SegmentSweep();
        for (int i : new int[] {0, 9, 1, 8, 2, 7, 3, 6, 4, 5}) {
            row.add(at(2 * i, i % 2), at(2 * i + 2, (i + 1) % 2));
        }
        Due.is("third: ten in a row", row.groups(), 1);
        Due.is("third: the middle away", row.remove(9) && row.groups() == 2, true);
    }

    /** "A FACE is a greatest part of the plane without the segments in which one can go from any point to any other" */
    private static void faceIsAGreatestPart() {
        int[] box = {0, 0, 10, 0, 10, 0, 10, 10, 10, 10, 0, 10, 0, 10, 0, 0};
        Due.is("face: a box", with(box).faces(), 1);
        SegmentSweep s = with(box);
        s.add(at(0, 5), at(9, 5));
        Due.is("face: one can go round a segment that ends inside", s.faces(), 1);
        s.add(at(9, 5), at(10, 5));
        Due.is("face: one cannot go through where two ends touch", s.faces(), 2);
        s.add(at(4, 1), at(6, 3));
        Due.is("face: round one that touches nothing", s.faces(), 2);
        s.add(at(4, 3), at(6, 1));
        Due.is("face: round a cross", s.faces(), 2);
        SegmentSweep tips = with(0, 0, 4, 0, 4, 0, 4, 4, 4, 4, 0, 0, 4, 4, 8, 4, 8, 4, 8, 8, 8, 8, 4, 4);
        Due.is("face: one cannot go through a common corner", tips.faces(), 2);
        SegmentSweep inner = with(0, 0, 20, 0, 20, 0, 0, 20, 0, 20, 0, 0, 2, 2, 6, 2, 6, 2, 2, 6, 2, 6, 2, 2);
        Due.is("face: a ring is one face", inner.faces(), 2);
        SegmentSweep touching = with(0, 0, 20, 0, 20, 0, 0, 20, 0, 20, 0, 0, 0, 9, 4, 9, 4, 9, 4, 12, 4, 12, 0, 9);
        Due.is("face: a face that touches its ring in a point", touching.faces(), 2);
    }

    /** "one face is unbounded" */
    private static void oneFaceIsUnbounded() {
        Due.is("unbounded: nothing", new SegmentSweep().faces(), 0);
        Due.is("unbounded: one", with(0, 0, 20, 20).faces(), 0);
        Due.is("unbounded: ten apart", levels(10).faces(), 0);
        Due.is("unbounded: a star", star().faces(), 0);
        Due.is("unbounded: an open box", with(0, 0, 9, 0, 9, 0, 9, 9, 9, 9, 0, 9, 0, 9, 0, 1).faces(), 0);
        Due.is("unbounded: the rim of the points is no bound", with(0, 0, 20, 0, 20, 0, 20, 20).faces(), 0);
        Due.is("unbounded: a triangle", with(0, 0, 20, 0, 20, 0, 0, 20, 0, 20, 0, 0).faces(), 1);
    }
}
