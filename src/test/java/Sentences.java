import java.io.IOException;
import java.nio.file.Files;
import java.nio.file.Path;
import java.util.ArrayList;
import java.util.BitSet;
import java.util.List;

/**
 * The words of the document that a test holds the class to. Each test begins by quoting its sentence, so that
 * a sentence that no test quotes, or a quote that the document does not say, is found out.
 */
final class Sentences {
    private static final Path DOC = Path.of("../shared/DOC.md");

    private final String text;
    private final BitSet quoted = new BitSet();
    private final Due due;
    private String now = "";
    private int answersBefore;

    Sentences(Due due) throws IOException {
        this.due = due;
        text = Files.exists(DOC) ? bound(Files.readString(DOC)) : "";
    }

    /** What binds, in one line: without the interface, the headings and the signatures of the calls. */
    private static String bound(String doc) {
        int terms = doc.indexOf("## Terms");
        int end = doc.indexOf("## Not promised");
        int limit = doc.indexOf("An object is used");
        String all = doc.substring(limit, doc.indexOf("## The public face")) + doc.substring(terms, end);
        return oneLine(all.replaceAll("(?m)^#.*$", "").replaceAll("(?m)^Ahead of the calls.*$", "")
            .replaceAll("(?m)^```.*$", "").replaceAll("(?m)^`[^`]*`:", ""));
    }

    private static String oneLine(String words) {
        return words.replaceAll("\\s+", " ").trim();
    }

    /** From here on the answers are those that this sentence asks for. */
    void says(String quote) {
        end();
        now = quote;
        answersBefore = due.asked();
        String words = oneLine(quote);
        int at = text.indexOf(words);
        if (at < 0 && !text.isEmpty()) {
            due.is("the document says \"" + quote + "\"", 0, 1);
        }
        for (; at >= 0; at = text.indexOf(words, at + 1)) {
            quoted.set(at, at + words.length());
        }
    }

    String now() {
        return now;
    }

    private void end() {
        if (!now.isEmpty() && due.asked() == answersBefore) {
            due.is("answers asked for \"" + now + "\"", 0, 1);
        }
    }

    /** Each sentence, or part of one, that is left without a test. */
    void allAreQuoted() {
        end();
        for (String left : left()) {
            due.is("a test for \"" + left + "\"", 0, 1);
        }
    }

    private List<String> left() {
        List<String> all = new ArrayList<>();
        StringBuilder words = new StringBuilder();
        for (int i = 0; i <= text.length(); i++) {
            if (i < text.length() && !quoted.get(i)) {
                words.append(text.charAt(i));
            } else {
                if (words.toString().matches(".*[A-Za-z0-9].*")) {
                    all.add(words.toString().trim());
                }
                words.setLength(0);
            }
        }
        return all;
    }
}
