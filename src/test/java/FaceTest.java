import java.io.IOException;
import java.lang.reflect.Member;
import java.lang.reflect.Modifier;
import java.nio.file.Files;
import java.nio.file.Path;
import java.util.ArrayList;
import java.util.Arrays;
import java.util.List;
import java.util.TreeSet;

/** The public face, and those rules of LANGUAGE.md that can be seen from the words of the source. */
public final class FaceTest {
    private static final String[] CALLS = {
        "as:2", "ask:2", "bears:2", "best:1", "byTurns:1", "copy:5", "count:1", "drawn:3", "drop:1", "fault:0",
        "feed:1", "flaws:2", "grade:2", "image:1", "kind:1", "lay:2", "layBest:0", "most:1", "need:1", "price:2",
        "restore:1", "row:3", "rule:2", "set:3", "sets:2", "share:2", "stand:1", "status:0", "step:2", "trace:1",
        "undo:0", "well:0", "who:4", "without:1"};
    private static final String[] BARRED = {
        "throw", "throws", "try", "catch", "finally", "synchronized", "assert", "protected", "double", "float",
        "Exact", "Random", "Thread", "System.out", "nanoTime", "currentTimeMillis", "->", "::", "hashCode", "toString"};
    private static final Due DUE = new Due();

    public static void main(String[] args) throws IOException {
        face();
        words(Files.readString(Path.of("src/main/java/WellPipes.java")));
        DUE.end();
    }

    private static void seen(Member member, TreeSet<String> into, String name) {
        if (!Modifier.isPrivate(member.getModifiers())) {
            into.add(name);
        }
    }

    private static void face() {
        TreeSet<String> calls = new TreeSet<>();
        List<String> hidden = new ArrayList<>();
        for (var m : WellPipes.class.getDeclaredMethods()) {
            seen(m, calls, m.getName() + ":" + m.getParameterCount());
            Class<?> want = m.getName().equals("flaws") ? long.class : int.class;
            if (Modifier.isPublic(m.getModifiers())) {
                DUE.is(m + " has its type", m.getReturnType() == want ? 1 : 0, 1);
            } else {
                hidden.add(m.getName());
            }
        }
        TreeSet<String> due = new TreeSet<>(Arrays.asList(CALLS));
        DUE.is("the calls are " + calls, calls.equals(due) ? 1 : 0, 1);
        for (Class<?> c : WellPipes.class.getDeclaredClasses()) {
            for (var m : c.getDeclaredMethods()) {
                hidden.add(m.getName());
            }
        }
        for (String name : hidden) {
            for (String call : CALLS) {
                DUE.is(name + " bears the name of a call", call.startsWith(name + ":") ? 1 : 0, 0);
            }
        }
        TreeSet<String> fields = new TreeSet<>();
        for (var f : WellPipes.class.getDeclaredFields()) {
            seen(f, fields, f.getName());
        }
        DUE.is("the constants are " + fields, fields.toString().equals("[BAD, FULL, NONE, STATE]") ? 1 : 0, 1);
        DUE.is("NONE", WellPipes.NONE, -1000000);
        DUE.is("BAD", WellPipes.BAD, -1000001);
        DUE.is("STATE", WellPipes.STATE, -1000002);
        DUE.is("FULL", WellPipes.FULL, -1000003);
        DUE.is("final", Modifier.isFinal(WellPipes.class.getModifiers()) ? 1 : 0, 1);
        for (Class<?> c : WellPipes.class.getDeclaredClasses()) {
            DUE.is(c + " is static", Modifier.isStatic(c.getModifiers()) ? 1 : 0, 1);
            DUE.is(c + " is not public", Modifier.isPublic(c.getModifiers()) ? 1 : 0, 0);
        }
    }

    private static void words(String source) {
        String code = source.replaceAll("(?s)/\\*.*?\\*/", "").replaceAll("//[^\n]*", "");
        for (String word : BARRED) {
            boolean isName = Character.isLetter(word.charAt(0));
            String pattern = isName ? "(?s).*\\b" + java.util.regex.Pattern.quote(word) + "\\b.*"
                : "(?s).*" + java.util.regex.Pattern.quote(word) + ".*";
            DUE.is("the source says " + word, code.matches(pattern) ? 1 : 0, 0);
        }
        for (String line : code.split("\n")) {
            if (line.startsWith("import ")) {
                DUE.is(line, line.equals("import java.util.Arrays;") ? 1 : 0, 1);
            }
            DUE.is("a line is too long: " + line, line.length() > 120 ? 1 : 0, 0);
        }
        DUE.is("signs beyond 127", source.chars().anyMatch(c -> c > 127) ? 1 : 0, 0);
    }
}
