/** Boundary cases of what the document says ahead of its four sections of terms. */
final class TermEdges extends Edges {
    TermEdges(Due due, Sentences sentences) {
        super(due, sentences);
    }

    @Override
    void all() {
        calls();
        numbers();
        divided();
        sets();
        badAhead();
        stateAndFull();
        findings();
        nothingChanges();
    }

    private void calls() {
        says("An object is used for at most 512 calls after it has been made; what later calls answer is free.");
        Run x = with("w2,1,0;g0,0;t9,9,99,1,1;");
        while (x.calls() < 510) {
            x.is("lay(1, 0)", -1).is("lay(1, -1)", 0);
        }
        if (x.calls() < 511) {
            x.is("count(3)", 0);
        }
        x.is("count(5)", 24);
        is("calls made", x.calls(), 512);
    }

    private void numbers() {
        says("Numbers go from 0 on.");
        Run x = with("w2,1,0;g0,0;t9,9,99,1,1;t8,9,99,1,1;");
        x.each("step(#, 1)", -1, BAD, 0, 0, BAD);
        x.each("grade(#, 0)", -1, BAD, 9, 8, BAD);
        x.each("row(#, 0, 2)", -1, BAD, 2, 2, 2, 2, 2, 2, 2, 2, BAD);
        x.each("set(0, #, 5)", -1, PLACE, 5, 5, PLACE);
        x.each("image(#)", -1, BAD, 1, 1, BAD);
        x.make("ask(0, 0)").each("trace(#)", -1, NONE, 13, 10, NONE);
    }

    private void divided() {
        says("All that is divided is cut towards 0, but fractions, told as two numbers in lowest terms (0 is 0 by 1).");
        // DENT is 10 by 3, cut to 3; 9 times 7 by 10 is cut to 6
        with("w2,1,0;g0,0;p9,9,3,1,1;").lay(-1, 0).is("bears(1, 1)", 6);
        // 5 by 3 is cut to 1 each, and 2 are over
        with("w3,1,0;g0,0;t9,9,99,1,1;").lay(0, 0, 0).each("share(#, 5)", 0, 2, 2, 1);
        // half of 9 is cut to 4
        Run x = with("w2,1,0;g5,0;t9,9,99,1,1;").lay(0, 0);
        x.is("flaws(2, 0)", 16).is("flaws(2, 1)", 25);
        x.is("flaws(10, 0)", 0).is("flaws(10, 1)", 1);
        x.is("flaws(0, 0)", 1).is("flaws(0, 1)", 1);
    }

    private void sets() {
        says("Sets are bits.");
        Run x = with("w8,1,0;g9,0;t1,9,99,1,1;t1,9,99,1,1;t1,9,99,1,1;t1,9,99,1,1;t9,9,99,1,2;");
        x.is("need(7)", 16).make("lay(7, 4)").is("sets(2, 2)", 128).is("sets(2, 1)", 128);
        x.make("row(0, 0, 8)").put(0, 0, 4, 4, 4, 4, 4, 4, 4, 4);
        x.is("who(4, 0, 0, 0)", 2 + 4 + 8 + 16 + 32).is("who(4, 1, 0, 0)", 2 + 4 + 8);
    }

    private void badAhead() {
        says("Refusals are answers, the first of these that fits, but as told: "
            + "BAD (a number is not as told; there is no such thing)");
        // ahead of STATE: a bare STEP, none kept, no WELL
        with("w2,1,0;g0,0;t9,9,99,1,1;").is("bears(0, 0)", STATE).is("bears(0, 3)", BAD);
        refused(BAD, "restore(2)", "restore(-1)");
        refusedWithoutWell(BAD, "image(2)", "image(-1)");
        refusedByFullTape(BAD, "feed(256)", "feed(-1)");
        // ahead of SIZE, NULL, PLACE, STORE, KIND
        refused(BAD, "row(8, 0, -1)", "row(0, 3, -1)", "set(8, -1, 0)", "drop(8)", "drop(-1)", "as(3, 1)", "as(0, 6)");
        refused(BAD, "copy(3, 0, 8, 0, 0)", "copy(-1, 0, 3, 0, 0)", "copy(0, -1, 8, 0, 0)");
        refused(BAD, "who(3, 0, 3, 0)", "who(0, 2, 3, 0)", "who(0, 0, 8, -1)", "who(-1, 0, 0, -1)");
    }

    private void stateAndFull() {
        says("STATE (as told), FULL (as told), then");
        refused(STATE, "lay(0, 2)", "lay(1, 0)", "lay(2, 1)", "restore(1)");
        refusedWithoutWell(STATE, "undo()", "layBest()", "image(0)", "restore(0)");
        refusedByFullTape(FULL, "feed(0)", "feed(119)", "feed(255)");
    }

    private void findings() {
        says("FINDINGS, of several the first in time: -1000010 less 1 NULL (a ROW that is missing), "
            + "2 PLACE (no such place of a ROW), 3 KIND (a GRADE that is not that), 4 SIZE (fewer than none), "
            + "5 STORE (ROWS of two LANES).");
        refused(-1000011, "set(3, 0, 0)", "drop(3)", "copy(3, 0, 0, 0, 1)", "copy(0, 0, 3, 0, 1)", "who(0, 0, 3, 0)");
        refused(-1000012, "set(0, 4, 0)", "copy(0, 0, 0, 4, 1)", "who(0, 0, 0, 2)");
        refused(-1000013, "as(0, 1)");
        refused(-1000014, "row(0, 0, -1)");
        refused(-1000015, "copy(0, 0, 1, 0, 1)");
        // of several: a ROW is sought ahead of its LANE, its LANE ahead of its places
        refused(NULL, "set(3, -1, 0)", "copy(3, -1, 0, 0, 1)", "copy(0, 9, 3, 0, 1)", "copy(3, 0, 4, 0, -1)",
            "who(0, 0, 3, -1)");
        refused(STORE, "copy(0, -1, 1, 0, 1)", "copy(0, 0, 1, 5, 1)", "copy(1, 0, 2, 0, -1)", "copy(2, 0, 0, 0, 41)");
    }

    private void nothingChanges() {
        says("What is refused, or found, changes nothing but status().");
        refused(BAD, "row(0, 0, 41)", "set(-1, 0, 1)", "copy(8, 0, 0, 0, 1)", "feed(256)", "lay(3, 0)", "lay(0, 3)",
            "rule(0, 21)", "price(0, 100)", "grade(0, 5)", "step(0, 6)", "bears(0, 3)", "stand(9)", "best(2)");
        refused(BAD, "without(3)", "most(2)", "need(3)", "sets(793, 0)", "share(0, 1000)", "byTurns(4)", "flaws(11, 0)",
            "drawn(61, 1, 0)", "image(2)", "restore(2)", "kind(3)", "as(0, 6)", "ask(3, 0)", "ask(0, 2)", "count(7)");
        refused(NONE, "trace(5)", "trace(-1)");
        refusedWithoutWell(STATE, "layBest()", "rule(0, 1)", "stand(0)", "best(0)", "most(0)", "sets(0, 0)",
            "byTurns(0)", "flaws(0, 0)", "drawn(0, 1, 0)", "image(0)");
        refusedWithoutWell(BAD, "lay(0, 0)", "lay(0, -1)", "price(0, 1)", "grade(0, 0)", "step(0, 0)", "bears(0, 0)",
            "without(0)", "need(0)", "share(0, 0)", "who(0, 0, 0, 0)", "kind(0)", "as(0, 0)", "ask(0, 0)");
    }
}
