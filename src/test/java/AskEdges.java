/** Boundary cases of section 4, ASKS of GRADES. */
final class AskEdges extends Edges {
    /** A GRADE of each KIND, of other PRICES and HEFTS. */
    private static final String FIVE = "w2,1,0;g0,0;p9,9,9,3,20;h9,9,9,5,31;b9,9,9,4,44;t9,9,9,6,25;l9,9,9,2,60;";

    AskEdges(Due due, Sentences sentences) {
        super(due, sentences);
    }

    @Override
    void all() {
        trace();
        size();
        mark();
        nearestKind();
    }

    /** An ask, its answer, and THE TRACE that it leaves, to its end. */
    private void asked(String text, int one, int what, long answer, long... trace) {
        Run x = with(text).is("ask(" + one + ", " + what + ")", answer).each("trace(#)", 0, trace);
        x.each("trace(#)", trace.length, NONE, NONE);
    }

    private void trace() {
        says("======== 4 ASKS of GRADES, by BODIES, each of which leaves its number in THE TRACE as it begins "
            + "(the first 16):");
        // six is the most that an ask leaves: the seventh is none, nor is any up to the sixteenth and beyond
        Run x = with(FIVE).is("ask(1, 0)", -43).each("trace(#)", 0, 12, 11, 10, 24, 21, 20, NONE);
        x.each("trace(#)", 14, NONE, NONE, NONE, NONE);
        // a later ask leaves nothing of the one before
        x.is("ask(3, 0)", -75).each("trace(#)", 0, 13, 10, NONE, NONE, NONE, NONE, NONE);
    }

    private void size() {
        says("0 SIZE: 10 lent to all GRADES: PRICE. 11 of PLAIN ones: what 10 gives, and MARK. 12 of HARD ones: 0 less "
            + "what 11 gives. 13 of THICK ones: what 10 gives, less 100. 14 of LINED ones: what 13 gives, twice.");
        asked(FIVE, 0, 0, 23, 11, 10, 21, 20);
        asked(FIVE, 1, 0, -43, 12, 11, 10, 24, 21, 20);
        asked(FIVE, 3, 0, -75, 13, 10);
        asked(FIVE, 4, 0, -80, 14, 13, 10);
        // PRICE at its ends, and another PRICE
        String ends = "w2,1,0;g0,0;t9,9,9,1,1;t9,9,9,1,99;l9,9,9,1,1;l9,9,9,1,99;h9,9,9,9,99;";
        asked(ends, 0, 0, -99, 13, 10);
        asked(ends, 1, 0, -1, 13, 10);
        asked(ends, 2, 0, -198, 14, 13, 10);
        asked(ends, 3, 0, -2, 14, 13, 10);
        asked(ends, 4, 0, -125, 12, 11, 10, 24, 21, 20);
        with(ends).make("price(0, 50)").is("ask(0, 0)", -50).make("undo()").is("ask(0, 0)", -99);
    }

    private void mark() {
        says("1 MARK: 20 lent to all GRADES: the number. 21 of PLAIN ones: what 20 gives, and HEFT. 22 of BRITTLE ones: "
            + "what 21 gives, less 1000. 23 of THICK ones: what 20 gives, less SIZE. 24 of HARD ones: "
            + "what 21 gives, twice.");
        asked(FIVE, 0, 1, 3, 21, 20);
        asked(FIVE, 1, 1, 12, 24, 21, 20);
        asked(FIVE, 2, 1, -994, 22, 21, 20);
        asked(FIVE, 3, 1, 78, 23, 20, 13, 10);
        asked("w2,1,0;g0,0;b9,9,9,1,1;", 0, 1, -999, 22, 21, 20);
        asked("w2,1,0;g0,0;b9,9,9,9,1;", 0, 1, -991, 22, 21, 20);
        asked("w2,1,0;g0,0;h9,9,9,9,1;", 0, 1, 18, 24, 21, 20);
    }

    private void nearestKind() {
        says("(Of an ask the BODY told for the KIND begins, else that of the nearest KIND that it is, too, else the one "
            + "that is lent; SIZE, MARK within others are asked of the same GRADE anew.)");
        // BRITTLE has no SIZE of its own, nor LINED a MARK: those of PLAIN and THICK begin, and ask anew within
        asked(FIVE, 2, 0, -950, 11, 10, 22, 21, 20);
        asked(FIVE, 4, 1, 84, 23, 20, 14, 13, 10);
        asked(FIVE, 1, 0, -43, 12, 11, 10, 24, 21, 20);
    }
}
