/** Long runs of calls, right and wrong ones, on SegmentSweep and Reference side by side. */
public final class ReferenceTest {
    private static final int MOST_CALLS = 512;
    private static final int[] RANGES = {2, 3, 4, 6, 10, 20};
    private static final int[] ODD_NUMBERS = {
        -1, -2, -32, 10, 21, 31, 44, 45, 46, 53, 661, 672, 692, 1023, 1024, 32 * 20 + 21, -2147483648, 2147483647
    };

    private static long state = 20261115;
    private static SegmentSweep sweep;
    private static Reference reference;
    private static int range;
    private static int calls;
    private static String story;

    public static void main(String[] args) {
        for (int run = 0; run < 200; run++) {
            mixedRun(run);
        }
        for (int run = 0; run < 600; run++) {
            buildThenAskAll(run);
        }
        everyTwoSmallSegments();
        Due.end();
    }

    /** A counting generator of its own, so that every run of the test is the same. */
    private static int below(int bound) {
        state = state * 6364136223846793005L + 1442695040888963407L;
        return (int) ((state >>> 33) % bound);
    }

    private static int number(int bound) {
        return below(25) == 0 ? ODD_NUMBERS[below(ODD_NUMBERS.length)] : below(bound);
    }

    private static int point() {
        return below(40) == 0 ? ODD_NUMBERS[below(ODD_NUMBERS.length)] : below(range + 1) + 32 * below(range + 1);
    }

    private static void begin(int run) {
        sweep = new SegmentSweep();
        reference = new Reference();
        range = RANGES[run % RANGES.length];
        calls = 0;
        story = "run " + run + ":";
    }

    private static void mixedRun(int run) {
        begin(run);
        while (calls < MOST_CALLS && Due.wrong() < 20) {
            int kind = below(20);
            if (kind < 4) {
                ask(0, point(), point());
            } else if (kind == 4) {
                ask(1, number(10), 0);
            } else {
                askSomething(2 + below(13));
            }
        }
    }

    private static void askSomething(int method) {
        switch (method) {
            case 3 -> ask(3, number(10), number(10));
            case 5, 6 -> ask(method, number(12), number(2));
            case 7 -> ask(7, number(12), 0);
            case 8 -> ask(8, number(10), 0);
            case 9, 10, 11 -> ask(method, point(), 0);
            default -> ask(method, 0, 0);
        }
    }

    private static void buildThenAskAll(int run) {
        begin(run);
        for (int i = 0; i < 25; i++) {
            ask(0, point(), point());
            if (below(6) == 0) {
                ask(1, below(10), 0);
            }
        }
        for (int method : new int[] {2, 4, 12, 13, 14}) {
            ask(method, 0, 0);
        }
        int count = reference.meetings();
        for (int i = -1; i <= count; i++) {
            for (int axis = 0; axis < 2; axis++) {
                ask(5, i, axis);
                ask(6, i, axis);
            }
            ask(7, i, 0);
        }
        for (int k = -1; k <= 10; k++) {
            ask(8, k, 0);
            ask(3, k, below(10));
        }
        while (calls < MOST_CALLS) {
            ask(9 + below(3), point(), 0);
        }
    }

    /** Each way in which two segments can lie to each other, as far as the points 0 .. 3 by 0 .. 3 have it. */
    private static void everyTwoSmallSegments() {
        for (int ends = 0; ends < 65536; ends++) {
            begin(ends);
            ask(0, smallPoint(ends), smallPoint(ends >> 4));
            ask(0, smallPoint(ends >> 8), smallPoint(ends >> 12));
            for (int method : new int[] {2, 4, 12, 13, 14}) {
                ask(method, 0, 0);
            }
            ask(3, 0, 1);
            for (int axis = 0; axis < 2; axis++) {
                ask(5, 0, axis);
                ask(6, 0, axis);
            }
        }
    }

    private static int smallPoint(int bits) {
        return (bits & 3) + 32 * (bits >> 2 & 3);
    }

    private static void ask(int method, int a, int b) {
        calls++;
        String before = story;
        switch (method) {
            case 0 -> tell("add", a, b, sweep.add(a, b), reference.add(a, b));
            case 1 -> tell("remove", a, b, sweep.remove(a) ? 1 : 0, reference.remove(a) ? 1 : 0);
            case 2 -> tell("segments", a, b, sweep.segments(), reference.segments());
            case 3 -> tell("meet", a, b, sweep.meet(a, b) ? 1 : 0, reference.meet(a, b) ? 1 : 0);
            case 4 -> tell("meetings", a, b, sweep.meetings(), reference.meetings());
            case 5 -> tell("top", a, b, sweep.top(a, b), reference.top(a, b));
            case 6 -> tell("bottom", a, b, sweep.bottom(a, b), reference.bottom(a, b));
            case 7 -> tell("through", a, b, sweep.through(a), reference.through(a));
            case 8 -> tell("degree", a, b, sweep.degree(a), reference.degree(a));
            case 9 -> tell("on", a, b, sweep.on(a), reference.on(a));
            case 10 -> tell("above", a, b, sweep.above(a), reference.above(a));
            case 11 -> tell("below", a, b, sweep.below(a), reference.below(a));
            case 12 -> tell("pieces", a, b, sweep.pieces(), reference.pieces());
            case 13 -> tell("groups", a, b, sweep.groups(), reference.groups());
            default -> tell("faces", a, b, sweep.faces(), reference.faces());
        }
        if (method > 1) {
            // Only the calls that change something are worth telling.
            story = before;
        }
    }

    private static void tell(String name, int a, int b, int got, int want) {
        story += " " + name + "(" + a + ", " + b + ")";
        Due.is(got == want ? name : story, got, want);
    }
}
