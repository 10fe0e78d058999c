import java.util.LinkedHashMap;
import java.util.Map;
import java.util.function.Supplier;

/** Rule 7 of the language: no call ever throws or fails to end, for any arguments in any state. */
public final class NeverThrowsTest extends Drawings {
    private static final long PATIENCE_MILLIS = 300000;
    private static final int METHODS = 15;
    private static final int[] EDGES = {
        LEAST, LEAST + 1, LEAST + 32, LEAST + 660, -65536, -1024, -660, -46, -45, -33, -32, -31, -21, -20, -10, -9, -2,
        -1, 0, 1, 2, 3, 8, 9, 10, 11, 19, 20, 21, 30, 31, 32, 33, 43, 44, 45, 46, 63, 64, 65, 327, 330, 331, 352, 639,
        640, 641, 659, 660, 661, 671, 672, 692, 1023, 1024, 1055, 65535, 65536, 1 << 27, 1 << 30, MOST - 31, MOST - 1,
        MOST
    };

    private static volatile String call = "none yet";
    private static volatile boolean allMade = false;

    public static void main(String[] args) throws InterruptedException {
        Thread worker = new Thread(NeverThrowsTest::makeAllCalls);
        worker.setDaemon(true);
        worker.start();
        worker.join(PATIENCE_MILLIS);
        Due.is("all calls have been made and have ended, up to " + call, allMade, true);
        Due.end();
    }

    private static void makeAllCalls() {
        for (Map.Entry<String, Supplier<SegmentSweep>> state : states().entrySet()) {
            for (int method = 0; method < METHODS; method++) {
                eachOnItsOwn(state.getKey(), state.getValue(), method);
            }
            oneAfterAnother(state.getKey(), state.getValue().get());
        }
        farBeyondThePromisedCalls();
        allMade = true;
    }

    private static Map<String, Supplier<SegmentSweep>> states() {
        Map<String, Supplier<SegmentSweep>> states = new LinkedHashMap<>();
        states.put("new", SegmentSweep::new);
        states.put("one", () -> with(0, 0, 20, 20));
        states.put("end to end", () -> with(10, 10, 20, 20, 10, 10, 0, 0, 5, 9, 5, 4, 5, 4, 5, 0));
        states.put("nine", () -> levels(9));
        states.put("ten", () -> levels(10));
        states.put("grid", Drawings::grid);
        states.put("star", Drawings::star);
        states.put("most meetings", Drawings::mostMeetings);
        states.put("great fractions", () -> with(0, 0, 20, 19, 0, 20, 19, 0, 0, 1, 20, 20, 1, 20, 20, 0));
        states.put("all taken away", NeverThrowsTest::emptied);
        return states;
    }

    private static SegmentSweep emptied() {
        SegmentSweep s = mostMeetings();
        for (int k = 0; k < 10; k++) {
            s.remove(k);
        }
        return s;
    }

    /** A new object for each call, as an add or a remove before it would leave another state. */
    private static void eachOnItsOwn(String state, Supplier<SegmentSweep> drawing, int method) {
        boolean takesTwo = method == 0 || method == 3 || method == 5 || method == 6;
        for (int a : EDGES) {
            for (int b : takesTwo ? EDGES : new int[] {0}) {
                attempt(state, drawing.get(), method, a, b);
            }
        }
    }

    private static void oneAfterAnother(String state, SegmentSweep s) {
        for (int a : EDGES) {
            for (int b : EDGES) {
                for (int method = 0; method < METHODS; method++) {
                    attempt(state + " and what came after", s, method, a, b);
                }
            }
        }
    }

    /** Later answers are free, but later calls still don't throw and do end. */
    private static void farBeyondThePromisedCalls() {
        SegmentSweep s = new SegmentSweep();
        long state = 5;
        for (int round = 0; round < 200000; round++) {
            state = state * 6364136223846793005L + 1442695040888963407L;
            int a = (int) (state >>> 33);
            int b = (int) (state >>> 20);
            boolean isRight = round % 3 != 0;
            attempt("call " + round, s, a % METHODS, isRight ? at(a % 21, (a >> 8) % 21) : a, isRight ? b & 15 : b);
            attempt("then", s, 0, at(a % 21, (a >> 8) % 21), at((a >> 13) % 21, (a >> 18) % 21));
            attempt("and then", s, round % 2, a & 15, b & 511);
        }
    }

    private static void attempt(String state, SegmentSweep s, int method, int a, int b) {
        call = state + ", method " + method + ", " + a + ", " + b;
        String thrown = "";
        try {
            make(s, method, a, b);
        } catch (Throwable t) {
            thrown = t.toString();
        }
        Due.is(call + " threw " + thrown + ": it", !thrown.isEmpty(), false);
    }

    private static void make(SegmentSweep s, int method, int a, int b) {
        switch (method) {
            case 0 -> s.add(a, b);
            case 1 -> s.remove(a);
            case 2 -> s.segments();
            case 3 -> s.meet(a, b);
            case 4 -> s.meetings();
            case 5 -> s.top(a, b);
            case 6 -> s.bottom(a, b);
            case 7 -> s.through(a);
            case 8 -> s.degree(a);
            case 9 -> s.on(a);
            case 10 -> s.above(a);
            case 11 -> s.below(a);
            case 12 -> s.pieces();
            case 13 -> s.groups();
            default -> s.faces();
        }
    }
}
