import java.lang.reflect.InvocationTargetException;
import java.lang.reflect.Method;
import java.util.HashMap;
import java.util.Map;

/** One object and the calls on it, told as they are written: "lay(0, -1)". MIN and MAX are the ends of int. */
final class Run {
    private static final int MOST_CALLS = 512;
    private static final Map<String, Method> CALLS = new HashMap<>();

    static {
        for (Method m : WellPipes.class.getMethods()) {
            if (m.getDeclaringClass() == WellPipes.class) {
                CALLS.put(m.getName(), m);
            }
        }
    }

    private final WellPipes x = new WellPipes();
    private final Edges edges;
    private int calls;

    Run(Edges edges) {
        this.edges = edges;
    }

    /** What a call answers; an object is promised no more than 512 of them. */
    long ask(String call) {
        calls++;
        if (calls > MOST_CALLS) {
            throw new IllegalStateException("a test makes more than 512 calls: " + call);
        }
        int open = call.indexOf('(');
        String inside = call.substring(open + 1, call.lastIndexOf(')'));
        String[] words = inside.isBlank() ? new String[0] : inside.split(", *");
        Object[] values = new Object[words.length];
        for (int i = 0; i < words.length; i++) {
            values[i] = number(words[i].trim());
        }
        try {
            return ((Number) CALLS.get(call.substring(0, open)).invoke(x, values)).longValue();
        } catch (InvocationTargetException e) {
            throw new IllegalStateException(call + " threw", e.getCause());
        } catch (IllegalAccessException e) {
            throw new IllegalStateException(call, e);
        }
    }

    private static int number(String word) {
        return word.equals("MIN") ? Integer.MIN_VALUE : word.equals("MAX") ? Integer.MAX_VALUE : Integer.parseInt(word);
    }

    int calls() {
        return calls;
    }

    /** A call and the answer that is due. */
    Run is(String call, long want) {
        edges.is(call, ask(call), want);
        return this;
    }

    /** Calls whose answers another test is about. */
    Run make(String... all) {
        for (String call : all) {
            ask(call);
        }
        return this;
    }

    Run feed(String text) {
        for (int i = 0; i < text.length(); i++) {
            ask("feed(" + (int) text.charAt(i) + ")");
        }
        return this;
    }

    /** GRADES from the top STEP on, -1 for a bare one. */
    Run lay(int... grades) {
        for (int step = 0; step < grades.length; step++) {
            ask("lay(" + step + ", " + grades[step] + ")");
        }
        return this;
    }

    /** ITEMS of a ROW from i on. */
    Run put(int row, int i, int... items) {
        for (int k = 0; k < items.length; k++) {
            ask("set(" + row + ", " + (i + k) + ", " + items[k] + ")");
        }
        return this;
    }

    /** One call for each number, which stands for the sign #, and the answers that are due in turn. */
    Run each(String call, int first, long... want) {
        for (int k = 0; k < want.length; k++) {
            is(call.replace("#", Integer.toString(first + k)), want[k]);
        }
        return this;
    }
}
