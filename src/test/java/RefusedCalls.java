import java.util.List;
import java.util.function.Consumer;
import java.util.function.Supplier;

/** A call that is answered BAD, REFUSED, FULL or false leaves the object as it was, and so does every question. */
final class RefusedCalls extends Drawings {
    private static final int[] TOLD_POINTS = {0, 20, at(3, 0), at(2, 2), at(5, 4), at(1, 9), at(10, 10), 640, 660};

    private RefusedCalls() {
    }

    static void changeNothing() {
        List<Supplier<SegmentSweep>> drawings = List.of(
                SegmentSweep::new, () -> levels(9), Drawings::mostMeetings, Drawings::grid, Drawings::star);
        for (Supplier<SegmentSweep> drawing : drawings) {
            String before = tells(drawing.get());
            for (int none : NO_POINTS) {
                stays(before, drawing, "add of a wrong point " + none, s -> s.add(none, at(1, 1)));
                stays(before, drawing, "add to a wrong point " + none, s -> s.add(at(1, 1), none));
                stays(before, drawing, "on, above, below of " + none, s -> {
                    s.on(none);
                    s.above(none);
                    s.below(none);
                });
            }
            stays(before, drawing, "add without length", s -> s.add(at(1, 1), at(1, 1)));
            for (int none : NO_SEGMENTS) {
                stays(before, drawing, "remove " + none, s -> s.remove(none));
                stays(before, drawing, "degree, meet of " + none, s -> {
                    s.degree(none);
                    s.meet(none, 0);
                    s.meet(0, none);
                });
            }
            for (int none : NO_MEETINGS) {
                stays(before, drawing, "top, bottom, through of " + none, s -> {
                    s.top(none, 0);
                    s.bottom(none, 1);
                    s.through(none);
                });
            }
            stays(before, drawing, "all questions", RefusedCalls::tells);
        }
        refusedAndFull();
    }

    private static void refusedAndFull() {
        Supplier<SegmentSweep> nine = () -> levels(9);
        String before = tells(nine.get());
        stays(before, nine, "REFUSED", s -> Due.is("REFUSED", s.add(at(2, 5), at(9, 5)), REFUSED));
        stays(before, nine, "remove of 9", s -> Due.is("remove", s.remove(9), false));
        Supplier<SegmentSweep> ten = Drawings::mostMeetings;
        before = tells(ten.get());
        stays(before, ten, "FULL", s -> Due.is("FULL", s.add(at(0, 0), at(20, 20)), FULL));
        stays(before, ten, "REFUSED of ten", s -> Due.is("REFUSED", s.add(at(1, 0), at(0, 10)), REFUSED));
    }

    private static void stays(String before, Supplier<SegmentSweep> drawing, String call, Consumer<SegmentSweep> doIt) {
        SegmentSweep s = drawing.get();
        doIt.accept(s);
        String after = tells(s);
        Due.is("after " + call + " the object tells " + after + " instead of " + before, after.equals(before), true);
    }

    /** Asks for each third meeting point alone: done twice, it stays within the 512 calls that an object has. */
    private static String tells(SegmentSweep s) {
        StringBuilder told = new StringBuilder();
        int meetings = s.meetings();
        told.append(s.segments()).append(' ').append(meetings).append(' ').append(s.pieces());
        told.append(' ').append(s.groups()).append(' ').append(s.faces());
        for (int i = 0; i < meetings; i += 3) {
            told.append(" / ").append(s.top(i, 0)).append(' ').append(s.bottom(i, 0)).append(' ').append(s.top(i, 1));
            told.append(' ').append(s.bottom(i, 1)).append(' ').append(s.through(i));
        }
        for (int j = 0; j < 10; j++) {
            told.append(" : ").append(s.degree(j));
            for (int k = 0; k < j; k++) {
                told.append(s.meet(j, k) ? '+' : '-');
            }
        }
        for (int point : TOLD_POINTS) {
            told.append(" . ").append(s.on(point)).append(' ').append(s.above(point));
            told.append(' ').append(s.below(point));
        }
        return told.toString();
    }
}
