/** What tests of boundary cases share: the sentence at hand, objects to call, and answers that are due. */
abstract class Edges {
    static final int NONE = Due.NONE, BAD = Due.BAD, STATE = Due.STATE, FULL = Due.FULL;
    static final int NULL = Due.NULL, PLACE = Due.PLACE, KIND = Due.KIND, SIZE = Due.SIZE, STORE = Due.STORE;

    private final Due due;
    private final Sentences sentences;
    private final Twins twins = new Twins(this);

    Edges(Due due, Sentences sentences) {
        this.due = due;
        this.sentences = sentences;
    }

    abstract void all();

    final void says(String quote) {
        sentences.says(quote);
    }

    final void is(String call, long got, long want) {
        due.is("\"" + sentences.now() + "\": " + call, got, want);
    }

    final Run fresh() {
        return new Run(this);
    }

    /** Calls that are refused, or found, where there is a WELL of 3 STEPS and 3 GRADES, and change nothing. */
    final void refused(long want, String... calls) {
        for (String call : calls) {
            twins.refused(Twins.Past.WELL, call, want);
        }
    }

    final void refusedWithoutWell(long want, String... calls) {
        for (String call : calls) {
            twins.refused(Twins.Past.NO_WELL, call, want);
        }
    }

    final void refusedByFullTape(long want, String... calls) {
        for (String call : calls) {
            twins.refused(Twins.Past.FULL_TAPE, call, want);
        }
    }

    /** Calls with an answer where there is a WELL of 3 STEPS and 3 GRADES that change nothing but status(). */
    final void changeNothing(String... calls) {
        for (String call : calls) {
            twins.changesNothing(call);
        }
    }

    /** An object whose WELL is told by a text. */
    final Run with(String text) {
        Run run = fresh().feed(text);
        if (run.ask("well()") < 1) {
            throw new IllegalArgumentException(text);
        }
        return run;
    }
}
