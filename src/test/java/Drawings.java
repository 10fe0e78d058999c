/** Drawings and wrong arguments that several tests use; a test extends it to have them by their plain names. */
class Drawings {
    static final int BAD = SegmentSweep.BAD;
    static final int FULL = SegmentSweep.FULL;
    static final int REFUSED = SegmentSweep.REFUSED;
    static final int LEAST = Integer.MIN_VALUE;
    static final int MOST = Integer.MAX_VALUE;
    static final int[] NO_POINTS = {
        -1, -32, LEAST, MOST, 21, 31, 32 * 20 + 21, 32 * 21, 32 * 21 + 20, 32 * 31, 1024, 65536, LEAST + 33
    };
    /** 32 and those beyond it would be right ones again if their low five bits alone were looked at. */
    static final int[] NO_SEGMENTS = {-1, 10, 31, 32, 33, 64, LEAST, MOST, -32};
    static final int[] NO_MEETINGS = {-1, 45, 46, 1000, LEAST, MOST};
    static final int[] NO_AXES = {-1, 2, 3, 32, LEAST, MOST};

    static int at(int x, int y) {
        return x + 32 * y;
    }

    /** An object with a segment for each four numbers: x and y of one end, x and y of the other one. */
    static SegmentSweep with(int... ends) {
        SegmentSweep s = new SegmentSweep();
        for (int i = 0; i < ends.length; i += 4) {
            Due.is("with, segment " + i / 4, s.add(at(ends[i], ends[i + 1]), at(ends[i + 2], ends[i + 3])), i / 4);
        }
        return s;
    }

    /** Level segments at y = 0 .. count - 1, each from x = 0 to x = 4. */
    static SegmentSweep levels(int count) {
        SegmentSweep s = new SegmentSweep();
        for (int k = 0; k < count; k++) {
            Due.is("levels: " + k, s.add(at(0, k), at(4, k)), k);
        }
        return s;
    }

    /** Ten segments, each two of which meet in a point of their own: as many meeting points as there can be. */
    static SegmentSweep mostMeetings() {
        SegmentSweep s = new SegmentSweep();
        for (int k = 0; k < 10; k++) {
            Due.is("most meetings: " + k, s.add(at(k + 1, 0), at(0, 10 - k)), k);
        }
        return s;
    }

    /** Level segments with even numbers and upright ones with odd numbers, five of each. */
    static SegmentSweep grid() {
        SegmentSweep s = new SegmentSweep();
        for (int i = 0; i < 5; i++) {
            Due.is("grid: level", s.add(at(0, 2 * i + 1), at(20, 2 * i + 1)), 2 * i);
            Due.is("grid: upright", s.add(at(2 * i + 1, 0), at(2 * i + 1, 20)), 2 * i + 1);
        }
        return s;
    }

    /** Ten segments that end in (10, 10). */
    static SegmentSweep star() {
        SegmentSweep s = new SegmentSweep();
        for (int k = 0; k < 10; k++) {
            Due.is("star: " + k, s.add(at(10, 10), k < 5 ? at(2 * k, 0) : at(20, 2 * k)), k);
        }
        return s;
    }

    /** The meeting point i has the x and y given as top, bottom, top, bottom. */
    static void isAt(String what, SegmentSweep s, int i, int... fractions) {
        Due.is(what + ": top x", s.top(i, 0), fractions[0]);
        Due.is(what + ": bottom x", s.bottom(i, 0), fractions[1]);
        Due.is(what + ": top y", s.top(i, 1), fractions[2]);
        Due.is(what + ": bottom y", s.bottom(i, 1), fractions[3]);
    }
}
