import java.io.IOException;
import java.lang.reflect.Method;
import java.lang.reflect.Modifier;
import java.nio.file.Files;
import java.nio.file.Path;
import java.util.regex.Matcher;
import java.util.regex.Pattern;

/** What README.md tells of the class: each answer in its examples, and the name of every call. */
public final class ReadmeTest {
    private static final Pattern BLOCK = Pattern.compile("(?s)```java\n(.*?)```");
    private static final Pattern FED = Pattern.compile("for \\(char c : \"([^\"]*)\"\\.toCharArray\\(\\)\\) \\{");
    private static final Pattern CALL = Pattern.compile("x\\.(\\w+\\([-0-9, ]*\\)); *// (-?[0-9]+)(:.*)?");
    private static final Due DUE = new Due();

    public static void main(String[] args) throws IOException {
        String page = Files.readString(Path.of("README.md"));
        Matcher block = BLOCK.matcher(page);
        int blocks = 0;
        while (block.find()) {
            blocks++;
            example(block.group(1));
        }
        DUE.is("there are examples", blocks > 0 ? 1 : 0, 1);
        everyCall(page);
        DUE.end();
    }

    private static void example(String lines) {
        Run run = null;
        for (String line : lines.split("\n")) {
            Matcher fed = FED.matcher(line);
            Matcher call = CALL.matcher(line);
            if (line.equals("WellPipes x = new WellPipes();")) {
                run = new Run(null);
            } else if (run != null && fed.matches()) {
                run.feed(fed.group(1));
            } else if (run != null && call.matches()) {
                DUE.is("README.md: " + call.group(1), run.ask(call.group(1)), Long.parseLong(call.group(2)));
            } else {
                DUE.is("README.md: a line of another form: " + line,
                    line.equals("    x.feed(c);") || line.equals("}") ? 1 : 0, 1);
            }
        }
    }

    private static void everyCall(String page) {
        for (Method m : WellPipes.class.getDeclaredMethods()) {
            if (Modifier.isPublic(m.getModifiers())) {
                DUE.is("README.md names " + m.getName(), page.contains("`" + m.getName() + "`") ? 1 : 0, 1);
            }
        }
    }
}
