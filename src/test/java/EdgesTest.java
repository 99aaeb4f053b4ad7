import java.io.IOException;

/** Each sentence of the document that names a boundary case, by a test of its own; none is left out. */
public final class EdgesTest {
    public static void main(String[] args) throws IOException {
        Due due = new Due();
        Sentences sentences = new Sentences(due);
        Edges[] all = {
            new TermEdges(due, sentences), new TextEdges(due, sentences), new LoadEdges(due, sentences),
            new ForetoldEdges(due, sentences), new AskEdges(due, sentences), new PromiseEdges(due, sentences),
            new AnswerEdges(due, sentences)};
        for (Edges edges : all) {
            edges.all();
        }
        sentences.allAreQuoted();
        due.end();
    }
}
