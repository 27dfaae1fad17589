import java.util.ArrayList;
import java.util.List;

/**
 * Whether a call changed anything: an object that got it is compared, in all that can be asked of it, with one that
 * did not. So much can't be asked in 512 calls, so each of the views is one of another pair of objects.
 */
final class Twins {
    private static final int PARTS_VIEW = 24, VIEWS = 25;

    private final String[] ahead;
    private final List<List<Long>> unchanged = new ArrayList<>();

    /** The rows that come ahead of the call, on both. */
    Twins(String... ahead) {
        this.ahead = ahead;
        for (int view = 0; view < VIEWS; view++) {
            unchanged.add(view(Run.of("ahead of the call", ahead), view));
        }
    }

    /** Calls with the answer that is due, each on an object of its own, that change nothing. */
    void changesNothing(String sentence, String... rows) {
        for (String row : rows) {
            boolean copied = row.startsWith("copy") && !row.endsWith("= BAD");
            for (int view = 0; view < VIEWS; view++) {
                Run run = Run.of(sentence, ahead).rows(row);
                Due.holds(sentence + " " + row + " changes nothing in view " + view,
                        view(run, view).equals(unchanged.get(view)));
            }
            Run latest = Run.of(sentence, ahead);
            long copiedAhead = latest.answer("copied");
            latest.rows(row).row("copied", copied ? 0 : copiedAhead);
        }
    }

    /** Other rows that come to the same, in all but what copied() tells. */
    void sameAs(String sentence, String... otherRows) {
        for (int view = 0; view < VIEWS; view++) {
            Due.holds(sentence + ": the same in view " + view, view(Run.of(sentence, otherRows), view).equals(unchanged.get(view)));
        }
    }

    private static List<Long> view(Run run, int view) {
        List<Long> seen = new ArrayList<>();
        if (view == PARTS_VIEW) {
            seeParts(run, seen);
        } else {
            seePlace(run, view, seen);
        }
        return seen;
    }

    private static void seePlace(Run run, int place, List<Long> seen) {
        long cells = run.answer("length " + place);
        seen.add(cells);
        seen.add(run.answer("kind " + place));
        for (int i = 0; i < cells; i++) {
            seen.add(run.answer("get " + place + " " + i));
        }
        // What is told at its bound may still be another number: turned to its own numbers, it is told.
        seen.add(run.answer("turn " + place + " 4"));
        for (int i = 0; i < cells; i++) {
            seen.add(run.answer("get " + place + " " + i));
        }
    }

    private static void seeParts(Run run, List<Long> seen) {
        for (int what = 0; what < 4; what++) {
            seen.add(run.answer("told " + what));
        }
        long parts = run.answer("told 2");
        seen.add(run.answer("part 0 0"));
        run.answer("make 0 7 1");
        for (int part = 0; part < parts; part++) {
            // Laid twice, since a SOFT one weighs the same behind an odd time and the even one next to it.
            for (int times = 0; times < 2; times++) {
                run.answer("lay 0 0 " + part);
                seen.add(run.answer("weigh 0 0"));
            }
            seen.add(run.answer("rigid 0 0"));
            seen.add(run.answer("raise 0 0"));
        }
    }
}
