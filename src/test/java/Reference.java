import java.util.ArrayList;
import java.util.HashMap;
import java.util.HashSet;
import java.util.List;
import java.util.Map;
import java.util.TreeMap;
import java.util.TreeSet;

/** The document's answers, found anew at each call and by other ways than those of SegmentSweep. */
final class Reference {
    private record Fraction(long top, long bottom) implements Comparable<Fraction> {
        static Fraction of(long top, long bottom) {
            long t = bottom < 0 ? -top : top;
            long b = Math.abs(bottom);
            long d = 1;
            for (long i = 2; i <= b; i++) {
                if (t % i == 0 && b % i == 0) {
                    d = i;
                }
            }
            return new Fraction(t / d, b / d);
        }

        public int compareTo(Fraction o) {
            return Long.compare(top * o.bottom, o.top * bottom);
        }

        double value() {
            return (double) top / bottom;
        }
    }

    private record Point(Fraction x, Fraction y) implements Comparable<Point> {
        static Point of(long x, long y) {
            return new Point(Fraction.of(x, 1), Fraction.of(y, 1));
        }

        public int compareTo(Point o) {
            int byX = x.compareTo(o.x);
            return byX != 0 ? byX : y.compareTo(o.y);
        }
    }

    private record Segment(int x1, int y1, int x2, int y2) {
        int dx() {
            return x2 - x1;
        }

        int dy() {
            return y2 - y1;
        }

        boolean has(Point p) {
            // On the line dy * x - dx * y = c, and inside the box.
            long c = (long) dy() * x1 - (long) dx() * y1;
            long xt = p.x.top * p.y.bottom;
            long yt = p.y.top * p.x.bottom;
            long b = p.x.bottom * p.y.bottom;
            return dy() * xt - dx() * yt == c * b
                    && xt >= Math.min(x1, x2) * b && xt <= Math.max(x1, x2) * b
                    && yt >= Math.min(y1, y2) * b && yt <= Math.max(y1, y2) * b;
        }
    }

    /** A piece walked in one direction. */
    private record Step(Point from, Point to, int dx, int dy) {
        Step back() {
            return new Step(to, from, -dx, -dy);
        }
    }

    private final Segment[] segment = new Segment[10];

    private static boolean isPoint(int p) {
        for (int x = 0; x <= 20; x++) {
            for (int y = 0; y <= 20; y++) {
                if (p == x + 32 * y) {
                    return true;
                }
            }
        }
        return false;
    }

    private boolean isThere(int k) {
        return k >= 0 && k <= 9 && segment[k] != null;
    }

    /** In how many points two segments meet: 0, 1 or 2 for more. */
    private static int commonPoints(Segment a, Segment b) {
        long cross = (long) a.dx() * b.dy() - (long) a.dy() * b.dx();
        if (cross != 0) {
            return crossing(a, b) == null ? 0 : 1;
        }
        if ((long) a.dx() * (b.y1 - a.y1) != (long) a.dy() * (b.x1 - a.x1)) {
            return 0;
        }
        long t1 = (long) a.dx() * (b.x1 - a.x1) + (long) a.dy() * (b.y1 - a.y1);
        long t2 = (long) a.dx() * (b.x2 - a.x1) + (long) a.dy() * (b.y2 - a.y1);
        long whole = (long) a.dx() * a.dx() + (long) a.dy() * a.dy();
        long from = Math.max(0, Math.min(t1, t2));
        long to = Math.min(whole, Math.max(t1, t2));
        return from > to ? 0 : from == to ? 1 : 2;
    }

    /** By Cramer's rule on the lines' equations; null when there is no point. */
    private static Point crossing(Segment a, Segment b) {
        long ca = (long) a.dy() * a.x1 - (long) a.dx() * a.y1;
        long cb = (long) b.dy() * b.x1 - (long) b.dx() * b.y1;
        long d = -(long) a.dy() * b.dx() + (long) a.dx() * b.dy();
        if (d == 0) {
            return null;
        }
        Point p = new Point(Fraction.of(-ca * b.dx() + cb * a.dx(), d), Fraction.of(a.dy() * cb - b.dy() * ca, d));
        return a.has(p) && b.has(p) ? p : null;
    }

    private List<Point> meetingPoints() {
        TreeSet<Point> candidates = new TreeSet<>();
        for (int j = 0; j < 10; j++) {
            if (isThere(j)) {
                candidates.add(Point.of(segment[j].x1, segment[j].y1));
                candidates.add(Point.of(segment[j].x2, segment[j].y2));
                for (int k = 0; k < j; k++) {
                    Point p = isThere(k) ? crossing(segment[j], segment[k]) : null;
                    if (p != null) {
                        candidates.add(p);
                    }
                }
            }
        }
        List<Point> found = new ArrayList<>();
        for (Point p : candidates) {
            if (Integer.bitCount(segmentsAt(p)) >= 2) {
                found.add(p);
            }
        }
        return found;
    }

    private int segmentsAt(Point p) {
        int mask = 0;
        for (int k = 0; k < 10; k++) {
            if (isThere(k) && segment[k].has(p)) {
                mask |= 1 << k;
            }
        }
        return mask;
    }

    int add(int one, int other) {
        if (!isPoint(one) || !isPoint(other) || one == other) {
            return -1;
        }
        Segment fresh = new Segment(one % 32, one / 32, other % 32, other / 32);
        for (int k = 0; k < 10; k++) {
            if (isThere(k) && commonPoints(segment[k], fresh) > 1) {
                return -3;
            }
        }
        for (int k = 0; k < 10; k++) {
            if (!isThere(k)) {
                segment[k] = fresh;
                return k;
            }
        }
        return -2;
    }

    boolean remove(int k) {
        boolean was = isThere(k);
        if (was) {
            segment[k] = null;
        }
        return was;
    }

    int segments() {
        int mask = 0;
        for (int k = 0; k < 10; k++) {
            mask += isThere(k) ? 1 << k : 0;
        }
        return mask;
    }

    boolean meet(int j, int k) {
        return isThere(j) && isThere(k) && commonPoints(segment[j], segment[k]) > 0;
    }

    int meetings() {
        return meetingPoints().size();
    }

    private Fraction coordinate(int i, int axis) {
        List<Point> all = meetingPoints();
        if (i < 0 || i >= all.size() || axis < 0 || axis > 1) {
            return null;
        }
        return axis == 0 ? all.get(i).x : all.get(i).y;
    }

    int top(int i, int axis) {
        Fraction f = coordinate(i, axis);
        return f == null ? -1 : (int) f.top;
    }

    int bottom(int i, int axis) {
        Fraction f = coordinate(i, axis);
        return f == null ? -1 : (int) f.bottom;
    }

    int through(int i) {
        List<Point> all = meetingPoints();
        return i < 0 || i >= all.size() ? -1 : segmentsAt(all.get(i));
    }

    int degree(int k) {
        return isThere(k) ? (int) meetingPoints().stream().filter(p -> segment[k].has(p)).count() : -1;
    }

    int on(int point) {
        return isPoint(point) ? segmentsAt(Point.of(point % 32, point / 32)) : -1;
    }

    int above(int point) {
        return nearest(point, true);
    }

    int below(int point) {
        return nearest(point, false);
    }

    private int nearest(int point, boolean up) {
        if (!isPoint(point)) {
            return -1;
        }
        int x = point % 32;
        Fraction y = Fraction.of(point / 32, 1);
        TreeMap<Fraction, Integer> heights = new TreeMap<>();
        for (int k = 0; k < 10; k++) {
            Segment s = segment[k];
            if (s != null && s.dx() != 0 && x >= Math.min(s.x1, s.x2) && x <= Math.max(s.x1, s.x2)) {
                heights.putIfAbsent(Fraction.of(s.y1 * s.dx() + s.dy() * (x - s.x1), s.dx()), k);
            }
        }
        Map.Entry<Fraction, Integer> next = up ? heights.higherEntry(y) : heights.lowerEntry(y);
        return next == null ? -1 : next.getValue();
    }

    /** Both ways along every piece. */
    private List<Step> steps() {
        List<Step> steps = new ArrayList<>();
        List<Point> meetings = meetingPoints();
        for (Segment s : segment) {
            if (s == null) {
                continue;
            }
            TreeSet<Point> cuts = new TreeSet<>();
            cuts.add(Point.of(s.x1, s.y1));
            cuts.add(Point.of(s.x2, s.y2));
            meetings.stream().filter(s::has).forEach(cuts::add);
            boolean rising = cuts.first().equals(Point.of(s.x1, s.y1));
            Point before = null;
            for (Point p : cuts) {
                if (before != null) {
                    Step step = new Step(before, p, rising ? s.dx() : -s.dx(), rising ? s.dy() : -s.dy());
                    steps.add(step);
                    steps.add(step.back());
                }
                before = p;
            }
        }
        return steps;
    }

    int pieces() {
        return steps().size() / 2;
    }

    int groups() {
        int[] label = new int[10];
        for (int k = 0; k < 10; k++) {
            label[k] = k;
        }
        for (int j = 0; j < 10; j++) {
            for (int k = 0; k < j; k++) {
                if (meet(j, k)) {
                    int old = label[j];
                    for (int m = 0; m < 10; m++) {
                        label[m] = label[m] == old ? label[k] : label[m];
                    }
                }
            }
        }
        HashSet<Integer> labels = new HashSet<>();
        for (int k = 0; k < 10; k++) {
            if (isThere(k)) {
                labels.add(label[k]);
            }
        }
        return labels.size();
    }

    /** Walks along the pieces with the face on the left: a walk counterclockwise is the outside of a bounded face. */
    int faces() {
        Map<Point, List<Step>> leaving = new HashMap<>();
        for (Step s : steps()) {
            leaving.computeIfAbsent(s.from, p -> new ArrayList<>()).add(s);
        }
        for (List<Step> around : leaving.values()) {
            around.sort((a, b) -> Double.compare(Math.atan2(a.dy, a.dx), Math.atan2(b.dy, b.dx)));
        }
        HashSet<Step> walked = new HashSet<>();
        int count = 0;
        for (Step start : steps()) {
            double area = 0;
            for (Step s = start; walked.add(s); ) {
                area += s.from.x.value() * s.to.y.value() - s.to.x.value() * s.from.y.value();
                List<Step> around = leaving.get(s.to);
                int back = around.indexOf(s.back());
                s = around.get((back + around.size() - 1) % around.size());
            }
            // The bottoms are at most 800, so that twice an area that isn't 0 is at least 1 / 800^3, about 2e-9.
            count += area > 1e-10 ? 1 : 0;
        }
        return count;
    }
}
