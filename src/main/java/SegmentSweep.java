/** Finds all points in which segments of the plane meet, exactly, and the pieces and faces into which they part it. */
public final class SegmentSweep {
    public static final int BAD = -1;
    public static final int FULL = -2;
    public static final int REFUSED = -3;

    private static final int MOST_SEGMENTS = 10;
    /** One for each pair of segments, as no two have more than one point in common. */
    private static final int MOST_MEETINGS = 45;
    private static final int GREATEST_COORDINATE = 20;
    private static final int COORDINATE_BITS = 5;
    private static final int COORDINATE_MASK = 31;
    /** Far above the some twenty steps that Euclid needs for tops up to 16000 and bottoms up to 800. */
    private static final int STEP_LIMIT = 1000000;

    /*
     * Ends are kept as places, 32 * x + y: places compare as points do by x and then by y, and so, along any line,
     * upright ones too, in the order in which they follow each other there. low[k] < high[k].
     */
    private final int[] low = new int[MOST_SEGMENTS];
    private final int[] high = new int[MOST_SEGMENTS];
    private int present;

    /* The meeting points in the order of their numbers, made anew whenever the segments change. */
    private final int[] topX = new int[MOST_MEETINGS];
    private final int[] bottomX = new int[MOST_MEETINGS];
    private final int[] topY = new int[MOST_MEETINGS];
    private final int[] bottomY = new int[MOST_MEETINGS];
    private final int[] passing = new int[MOST_MEETINGS];
    private int meetingCount;

    /* The point that findCommonPoint found: x and y over one bottom of at least 1, not yet in lowest terms. */
    private int commonX;
    private int commonY;
    private int commonBottom;

    public SegmentSweep() {
        present = 0;
        meetingCount = 0;
    }

    public int add(int one, int other) {
        if (!isPoint(one) || !isPoint(other) || one == other) {
            return BAD;
        }
        int first = placeOf(one);
        int second = placeOf(other);
        int lower = first < second ? first : second;
        int upper = first < second ? second : first;
        if (overlapsAny(lower, upper)) {
            return REFUSED;
        }
        int k = leastFreeNumber();
        if (k >= MOST_SEGMENTS) {
            return FULL;
        }
        low[k] = lower;
        high[k] = upper;
        present |= 1 << k;
        findMeetings();
        return k;
    }

    public boolean remove(int k) {
        if (!isPresent(k)) {
            return false;
        }
        present &= ~(1 << k);
        findMeetings();
        return true;
    }

    public int segments() {
        return present;
    }

    public boolean meet(int j, int k) {
        if (!isPresent(j) || !isPresent(k)) {
            return false;
        }
        if (j == k) {
            return true;
        }
        int pair = 1 << j | 1 << k;
        for (int i = 0; i < meetingCount; i++) {
            if ((passing[i] & pair) == pair) {
                return true;
            }
        }
        return false;
    }

    public int meetings() {
        return meetingCount;
    }

    public int top(int i, int axis) {
        if (!isMeeting(i) || !isAxis(axis)) {
            return BAD;
        }
        return axis == 0 ? topX[i] : topY[i];
    }

    public int bottom(int i, int axis) {
        if (!isMeeting(i) || !isAxis(axis)) {
            return BAD;
        }
        return axis == 0 ? bottomX[i] : bottomY[i];
    }

    public int through(int i) {
        if (!isMeeting(i)) {
            return BAD;
        }
        return passing[i];
    }

    public int degree(int k) {
        if (!isPresent(k)) {
            return BAD;
        }
        int count = 0;
        for (int i = 0; i < meetingCount; i++) {
            if (passesThrough(k, i)) {
                count++;
            }
        }
        return count;
    }

    public int on(int point) {
        if (!isPoint(point)) {
            return BAD;
        }
        int place = placeOf(point);
        int found = 0;
        for (int k = 0; k < MOST_SEGMENTS; k++) {
            if (isPresent(k) && isOn(place, k)) {
                found |= 1 << k;
            }
        }
        return found;
    }

    public int above(int point) {
        return nearest(point, 1);
    }

    public int below(int point) {
        return nearest(point, -1);
    }

    public int pieces() {
        int count = 0;
        for (int k = 0; k < MOST_SEGMENTS; k++) {
            if (isPresent(k)) {
                // A meeting point at an end parts nothing.
                count += 1 + degree(k) - metEnds(k);
            }
        }
        return count;
    }

    public int groups() {
        int left = present;
        int count = 0;
        for (int k = 0; k < MOST_SEGMENTS; k++) {
            if ((left >> k & 1) == 1) {
                left &= ~groupOf(k);
                count++;
            }
        }
        return count;
    }

    public int faces() {
        // Euler: corners - pieces + all faces = 1 + groups, and one of all faces is unbounded.
        return pieces() - corners() + groups();
    }

    private static boolean isPoint(int point) {
        return point >= 0
                && (point & COORDINATE_MASK) <= GREATEST_COORDINATE
                && point >> COORDINATE_BITS <= GREATEST_COORDINATE;
    }

    private static int placeOf(int point) {
        return (point & COORDINATE_MASK) << COORDINATE_BITS | point >> COORDINATE_BITS;
    }

    private static int xOf(int place) {
        return place >> COORDINATE_BITS;
    }

    private static int yOf(int place) {
        return place & COORDINATE_MASK;
    }

    private static boolean isAxis(int axis) {
        return axis == 0 || axis == 1;
    }

    private boolean isPresent(int k) {
        return k >= 0 && k < MOST_SEGMENTS && (present >> k & 1) == 1;
    }

    private boolean isMeeting(int i) {
        return i >= 0 && i < meetingCount;
    }

    private boolean passesThrough(int k, int i) {
        return (passing[i] >> k & 1) == 1;
    }

    private int leastFreeNumber() {
        for (int k = 0; k < MOST_SEGMENTS; k++) {
            if (!isPresent(k)) {
                return k;
            }
        }
        return MOST_SEGMENTS;
    }

    private boolean isInLine(int place, int k) {
        int alongX = xOf(high[k]) - xOf(low[k]);
        int alongY = yOf(high[k]) - yOf(low[k]);
        int toX = xOf(place) - xOf(low[k]);
        int toY = yOf(place) - yOf(low[k]);
        return alongX * toY == alongY * toX;
    }

    private boolean isOn(int place, int k) {
        return low[k] <= place && place <= high[k] && isInLine(place, k);
    }

    private boolean overlapsAny(int lower, int upper) {
        for (int k = 0; k < MOST_SEGMENTS; k++) {
            // Strictly less: segments in one line may still share an end.
            if (isPresent(k) && lower < high[k] && low[k] < upper && isInLine(lower, k) && isInLine(upper, k)) {
                return true;
            }
        }
        return false;
    }

    private void findMeetings() {
        meetingCount = 0;
        for (int j = 0; j < MOST_SEGMENTS; j++) {
            for (int k = j + 1; k < MOST_SEGMENTS; k++) {
                if (isPresent(j) && isPresent(k) && findCommonPoint(j, k)) {
                    recordCommonPoint(1 << j | 1 << k);
                }
            }
        }
    }

    private boolean findCommonPoint(int j, int k) {
        int jx = xOf(high[j]) - xOf(low[j]);
        int jy = yOf(high[j]) - yOf(low[j]);
        int kx = xOf(high[k]) - xOf(low[k]);
        int ky = yOf(high[k]) - yOf(low[k]);
        int whole = jx * ky - jy * kx;
        if (whole == 0) {
            return findCommonEnd(j, k);
        }
        int gapX = xOf(low[k]) - xOf(low[j]);
        int gapY = yOf(low[k]) - yOf(low[j]);
        // The lines cross when a share of partJ / whole of segment j is done, and of partK / whole of segment k.
        int partJ = gapX * ky - gapY * kx;
        int partK = gapX * jy - gapY * jx;
        if (whole < 0) {
            whole = -whole;
            partJ = -partJ;
            partK = -partK;
        }
        if (partJ < 0 || partJ > whole || partK < 0 || partK > whole) {
            return false;
        }
        commonX = xOf(low[j]) * whole + partJ * jx;
        commonY = yOf(low[j]) * whole + partJ * jy;
        commonBottom = whole;
        return true;
    }

    /** For segments of one direction: as they don't overlap, they can only touch where one ends and one begins. */
    private boolean findCommonEnd(int j, int k) {
        if (high[j] != low[k] && high[k] != low[j]) {
            return false;
        }
        int place = high[j] == low[k] ? low[k] : low[j];
        commonX = xOf(place);
        commonY = yOf(place);
        commonBottom = 1;
        return true;
    }

    private void recordCommonPoint(int pair) {
        int at = 0;
        while (at < meetingCount && orderAgainstCommon(at) < 0) {
            at++;
        }
        if (at < meetingCount && orderAgainstCommon(at) == 0) {
            passing[at] |= pair;
        } else if (meetingCount < MOST_MEETINGS) {
            makeRoom(at);
            storeCommonPoint(at);
            passing[at] = pair;
        }
    }

    /** Less than, equal to or greater than 0 as meeting point i comes before, is or comes after the common point. */
    private int orderAgainstCommon(int i) {
        int byX = topX[i] * commonBottom - commonX * bottomX[i];
        int byY = topY[i] * commonBottom - commonY * bottomY[i];
        return byX != 0 ? byX : byY;
    }

    private void makeRoom(int at) {
        for (int i = meetingCount; i > at; i--) {
            topX[i] = topX[i - 1];
            bottomX[i] = bottomX[i - 1];
            topY[i] = topY[i - 1];
            bottomY[i] = bottomY[i - 1];
            passing[i] = passing[i - 1];
        }
        meetingCount++;
    }

    private void storeCommonPoint(int at) {
        int divisorX = commonDivisor(commonX, commonBottom);
        int divisorY = commonDivisor(commonY, commonBottom);
        topX[at] = commonX / divisorX;
        bottomX[at] = commonBottom / divisorX;
        topY[at] = commonY / divisorY;
        bottomY[at] = commonBottom / divisorY;
    }

    /** At least 1, so that one may divide by it. */
    private static int commonDivisor(int a, int b) {
        int greater = a;
        int lesser = b;
        for (int step = 0; step < STEP_LIMIT && lesser != 0; step++) {
            int rest = greater % lesser;
            greater = lesser;
            lesser = rest;
        }
        return greater < 1 ? 1 : greater;
    }

    /** Looks up from the point when direction is 1, down when it is -1. */
    private int nearest(int point, int direction) {
        if (!isPoint(point)) {
            return BAD;
        }
        int place = placeOf(point);
        int best = BAD;
        int bestGap = 0;
        int bestWidth = 1;
        for (int k = 0; k < MOST_SEGMENTS; k++) {
            if (isPresent(k) && reachesColumn(place, k)) {
                // The distance is gap / width: as two whole numbers, distances compare exactly.
                int width = xOf(high[k]) - xOf(low[k]);
                int gap = direction * scaledHeight(place, k);
                if (gap > 0 && (best == BAD || gap * bestWidth < bestGap * width)) {
                    best = k;
                    bestGap = gap;
                    bestWidth = width;
                }
            }
        }
        return best;
    }

    private boolean reachesColumn(int place, int k) {
        // An upright segment never counts, not even in its own column.
        int fromX = xOf(low[k]);
        int toX = xOf(high[k]);
        int x = xOf(place);
        return fromX < toX && fromX <= x && x <= toX;
    }

    /** How far segment k is above the place, times the segment's width so that it stays whole. */
    private int scaledHeight(int place, int k) {
        int width = xOf(high[k]) - xOf(low[k]);
        int rise = yOf(high[k]) - yOf(low[k]);
        int done = xOf(place) - xOf(low[k]);
        return (yOf(low[k]) - yOf(place)) * width + rise * done;
    }

    private int metEnds(int k) {
        int count = 0;
        for (int i = 0; i < meetingCount; i++) {
            if (isEndOf(k, i)) {
                count++;
            }
        }
        return count;
    }

    private boolean isEndOf(int k, int i) {
        if (bottomX[i] != 1 || bottomY[i] != 1) {
            return false;
        }
        int place = topX[i] << COORDINATE_BITS | topY[i];
        return place == low[k] || place == high[k];
    }

    /** The meeting points and the ends that are none: such an end belongs to one segment alone. */
    private int corners() {
        int count = meetingCount;
        for (int k = 0; k < MOST_SEGMENTS; k++) {
            if (isPresent(k)) {
                count += 2 - metEnds(k);
            }
        }
        return count;
    }

    private int groupOf(int k) {
        int group = 1 << k;
        // Each round but the last adds a segment, so as many rounds as segments are enough.
        for (int round = 0; round < MOST_SEGMENTS; round++) {
            for (int i = 0; i < meetingCount; i++) {
                if ((passing[i] & group) != 0) {
                    group |= passing[i];
                }
            }
        }
        return group;
    }
}
