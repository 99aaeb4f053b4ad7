import java.util.HashMap;
import java.util.Map;

/**
 * Two objects with the same calls behind them, one of which is then asked what is refused: all that can be seen
 * of the two, and all that can be undone, restored and read of them, must be the same, but for status().
 */
final class Twins {
    /** What has been called on a twin. In each there are ROWS of every LANE, and half a WELL is on the tape. */
    enum Past { NO_WELL, WELL, FULL_TAPE }

    /** BEST is 2, 0, 0. */
    private static final String WELL = "w3,1,5;g40,10;t50,60,40,4,7;l30,71,40,3,9;p99,99,20,9,1;";
    private static final String HALF = "w2,1,0;g0,0;t9,9,9,1,";
    private static final int NONE = Due.NONE, ROWS = 8, FOUND = -1000010, TAPE = 130;

    private final Edges edges;
    private final Map<Past, String> seen = new HashMap<>();

    Twins(Edges edges) {
        this.edges = edges;
    }

    void refused(Past past, String call, long want) {
        for (int status : new int[] {0, 5}) {
            Run run = lived(past, status);
            run.is(call, want);
            boolean found = want < FOUND && want > FOUND - 10;
            run.is("status()", found ? FOUND - want : status);
            same(run, past, call);
        }
    }

    void changesNothing(String call) {
        Run run = lived(Past.WELL, 0);
        edges.is(call + " is refused", run.ask(call) < NONE ? 1 : 0, 0);
        same(run, Past.WELL, call);
    }

    /** status() is no part of a snapshot, so that twins of one past have the same, whatever it was. */
    private void same(Run run, Past past, String call) {
        String due = seen.computeIfAbsent(past, key -> snapshot(lived(key, 0)));
        edges.is(call + " changed nothing, but for the row of what is seen", differing(snapshot(run), due), -1);
    }

    private Run lived(Past past, int status) {
        Run run = edges.fresh().feed("w9").make("well()");
        if (past == Past.WELL) {
            run.feed(WELL).make("well()", "lay(0, 0)", "lay(1, 1)", "image(0)", "rule(0, 6)", "price(2, 5)",
                "layBest()", "lay(2, 1)", "ask(1, 1)");
        }
        run.make("row(0, 0, 4)", "row(1, 1, 4)", "row(2, 2, 0)", "row(7, 0, 40)");
        run.put(0, 0, 2, 0, 0, 5).put(1, 0, 5, 2, 0, 0);
        run.feed(past == Past.FULL_TAPE ? HALF + ";".repeat(TAPE - HALF.length()) : HALF);
        return run.make(status == 0 ? "copy(0, 0, 0, 0, 0)" : "copy(0, 0, 1, 0, 0)");
    }

    /** The first row in which two snapshots differ. */
    private static int differing(String one, String other) {
        String[] a = one.split("\n");
        String[] b = other.split("\n");
        for (int i = 0; i < Math.max(a.length, b.length); i++) {
            if (i >= a.length || i >= b.length || !a[i].equals(b[i])) {
                return i;
            }
        }
        return -1;
    }

    private static String snapshot(Run run) {
        StringBuilder told = new StringBuilder();
        each(run, told, "count(#)", 0, 6);
        each(run, told, "trace(#)", 0, 6);
        tell(run, told, "fault()");
        standing(run, told);
        each(run, told, "best(#)", 0, 1);
        each(run, told, "best(#)", 10, 12);
        each(run, told, "most(#)", 0, 1);
        for (int grade = 0; grade < 3; grade++) {
            each(run, told, "grade(" + grade + ", #)", 0, 4);
            tell(run, told, "kind(" + grade + ")");
            tell(run, told, "without(" + grade + ")");
        }
        rows(run, told);
        for (int i = 0; i < 7; i++) {
            tell(run, told, "undo()");
            standing(run, told);
            each(run, told, "grade(#, 4)", 0, 2);
        }
        tell(run, told, "restore(1)");
        tell(run, told, "restore(0)");
        standing(run, told);
        run.feed("7;");
        tell(run, told, "well()");
        tell(run, told, "grade(0, 4)");
        return told.toString();
    }

    private static void standing(Run run, StringBuilder told) {
        each(run, told, "stand(#)", 0, 8);
        for (int step = 0; step < 3; step++) {
            tell(run, told, "step(" + step + ", 0)");
        }
    }

    /** How long ROWS are and of which LANE is seen by copies of no ITEM; what is in them by who(). */
    private static void rows(Run run, StringBuilder told) {
        for (int row = 0; row < ROWS; row++) {
            tell(run, told, "copy(" + row + ", 0, " + row + ", 0, 0)");
        }
        for (int row : new int[] {0, 1, 2, 7}) {
            int[] ends = row == 7 ? new int[] {40, 41} : row == 2 ? new int[] {0, 1} : new int[] {4, 5};
            for (int end : ends) {
                tell(run, told, "copy(" + row + ", " + end + ", " + row + ", " + end + ", 0)");
            }
        }
        for (int row = 1; row < 3; row++) {
            tell(run, told, "copy(0, 0, " + row + ", 0, 0)");
            tell(run, told, "copy(" + row + ", 0, 7, 0, 0)");
        }
        tell(run, told, "who(0, 1, 0, 0)");
        tell(run, told, "who(0, 1, 1, 1)");
    }

    private static void each(Run run, StringBuilder told, String call, int first, int last) {
        for (int i = first; i <= last; i++) {
            tell(run, told, call.replace("#", Integer.toString(i)));
        }
    }

    private static void tell(Run run, StringBuilder told, String call) {
        told.append(call).append(' ').append(run.ask(call)).append('\n');
    }
}
