/** Boundary cases of the promises 18 to 35: what is foretold, images, and what is asked. */
final class AnswerEdges extends Edges {
    private static final String TWO = "w2,1,0;g0,0;t9,9,99,1,10;t9,9,99,9,3;";
    private static final String FIVE = "w6,2,9;g60,8;p60,60,40,3,20;h40,80,60,5,31;b90,50,99,4,44;t30,70,30,6,25;l55,40,50,2,60;";

    AnswerEdges(Due due, Sentences sentences) {
        super(due, sentences);
    }

    @Override
    void all() {
        best();
        without();
        most();
        need();
        sets();
        share();
        byTurns();
        who();
        flaws();
        drawn();
        image();
        restore();
        kind();
        as();
        ask();
        trace();
        count();
        status();
    }

    private void best() {
        says("BEST: COST (what = 0), HEFT (1), 10 and a STEP: its GRADE; NONE. BAD; STATE: no WELL (ahead of BAD).");
        with(TWO).each("best(#)", -1, BAD, 6, 18, BAD).each("best(#)", 9, BAD, 1, 1, BAD);
        with("w8,1,0;g0,0;t9,9,99,1,1;").each("best(#)", 16, 0, 0, BAD);
        // where there is none it is NONE, but for what is no number of the call
        with("w2,3,0;g0,0;t9,9,99,1,1;").each("best(#)", -1, BAD, NONE, NONE, BAD).each("best(#)", 9, BAD, NONE, NONE, BAD);
        refused(BAD, "best(-1)", "best(2)", "best(9)", "best(13)", "best(17)", "best(MIN)", "best(MAX)");
        refusedWithoutWell(STATE, "best(0)", "best(10)", "best(-1)", "best(2)", "best(MAX)");
    }

    private void without() {
        says("WITHOUT; NONE. BAD.");
        with(TWO).each("without(#)", -1, BAD, 6, 20, BAD);
        with("w2,1,0;g9,0;t9,9,99,1,10;t8,9,99,9,3;").each("without(#)", 0, NONE, 20);
        refused(BAD, "without(-1)", "without(3)", "without(4)", "without(MIN)", "without(MAX)");
        refusedWithoutWell(BAD, "without(0)", "without(-1)");
    }

    private void most() {
        says("MOST: MUD (what = 0), TOP (1); NONE. BAD; STATE: no WELL (ahead of BAD).");
        with(TWO).each("most(#)", -1, BAD, NONE, NONE, BAD).lay(0, 0).each("most(#)", -1, BAD, 4, 9, BAD);
        refused(BAD, "most(-1)", "most(2)", "most(MIN)", "most(MAX)");
        refusedWithoutWell(STATE, "most(0)", "most(1)", "most(2)", "most(-1)");
    }

    private void need() {
        says("NEED (bits). BAD.");
        with(TWO).each("need(#)", -1, BAD, 3, 3, BAD);
        refused(BAD, "need(-1)", "need(3)", "need(7)", "need(MIN)", "need(MAX)");
        refusedWithoutWell(BAD, "need(0)", "need(-1)");
    }

    private void sets() {
        says("SETS: how many (what = 0), in all (1), in any (2). BAD; STATE: no WELL (ahead of BAD).");
        with(TWO).lay(0, 1).each("sets(13, #)", -1, BAD, 1, 3, 3, BAD).each("sets(12, #)", 0, 0, 0, 0);
        refused(BAD, "sets(-1, 0)", "sets(793, 0)", "sets(MIN, 0)", "sets(MAX, 0)", "sets(0, -1)", "sets(0, 3)",
            "sets(0, MIN)", "sets(0, MAX)");
        refusedWithoutWell(STATE, "sets(0, 0)", "sets(-1, 0)", "sets(793, 0)", "sets(0, 3)");
    }

    private void share() {
        says("SHARE. BAD.");
        with(TWO).lay(0, 1).each("share(#, 10)", -1, BAD, 1, 9, BAD);
        refused(BAD, "share(-1, 0)", "share(3, 0)", "share(MIN, 0)", "share(MAX, 0)", "share(0, -1)", "share(0, 1000)",
            "share(0, MIN)", "share(0, MAX)");
        refusedWithoutWell(BAD, "share(0, 0)", "share(-1, -1)");
    }

    private void byTurns() {
        says("TURNS. BAD; STATE: no WELL (ahead of BAD).");
        with(TWO).each("byTurns(#)", -1, BAD, 0, 3, 13, BAD);
        refused(BAD, "byTurns(-1)", "byTurns(4)", "byTurns(5)", "byTurns(MIN)", "byTurns(MAX)");
        refusedWithoutWell(STATE, "byTurns(0)", "byTurns(-1)", "byTurns(5)");
    }

    private void who() {
        says("KINDS (which = 0) of a GRADE, LEASTS (1), as many ITEMS of a ROW from i on as there are STEPS. "
            + "BAD: GRADE (always), which, ROW; NULL; PLACE.");
        // GRADE is looked at for LEASTS, too
        refused(BAD, "who(-1, 0, 0, 0)", "who(3, 0, 0, 0)", "who(-1, 1, 0, 0)", "who(3, 1, 0, 0)", "who(MIN, 1, 0, 0)",
            "who(MAX, 1, 0, 0)", "who(0, -1, 0, 0)", "who(0, 2, 0, 0)", "who(0, MIN, 0, 0)", "who(0, MAX, 0, 0)");
        refused(BAD, "who(0, 0, -1, 0)", "who(0, 0, 8, 0)", "who(0, 1, MIN, 0)", "who(0, 1, MAX, 0)", "who(3, 1, 3, -1)",
            "who(0, 2, 3, -1)", "who(0, 0, 8, -1)");
        refused(NULL, "who(0, 0, 3, 0)", "who(0, 1, 6, 0)", "who(2, 1, 3, -1)", "who(0, 0, 3, MAX)");
        refused(PLACE, "who(0, 0, 0, -1)", "who(0, 0, 0, 2)", "who(0, 1, 2, 0)", "who(0, 1, 7, 38)", "who(0, 0, 0, MIN)",
            "who(0, 0, 0, MAX)", "who(0, 0, 7, 40)");
        refusedWithoutWell(BAD, "who(0, 0, 0, 0)", "who(0, 1, 3, 0)", "who(0, 1, 0, -1)");
        // as many ITEMS as there are STEPS, to the very end
        Run x = with("w8,1,0;g0,0;t9,9,99,1,1;").make("row(0, 0, 8)", "row(1, 0, 40)", "row(2, 0, 7)");
        x.each("who(0, 1, 0, #)", -1, PLACE, 14, PLACE).each("who(0, 1, 1, #)", 31, 14, 14, PLACE);
        x.is("who(0, 1, 2, 0)", PLACE).is("set(1, 39, 1)", 1).each("who(0, 1, 1, #)", 31, 14, 0, PLACE);
    }

    private void flaws() {
        says("FLAWS: above (what = 0), below (1). BAD; STATE: no WELL (ahead of BAD).");
        with(TWO).make("rule(1, 9)").lay(0, 0).each("flaws(5, #)", -1, BAD, 1, 4, BAD);
        refused(BAD, "flaws(-1, 0)", "flaws(11, 0)", "flaws(MIN, 0)", "flaws(MAX, 0)", "flaws(0, -1)", "flaws(0, 2)",
            "flaws(0, MIN)", "flaws(0, MAX)");
        refusedWithoutWell(STATE, "flaws(0, 0)", "flaws(-1, 0)", "flaws(11, 1)", "flaws(0, 2)");
    }

    private void drawn() {
        says("YEARS by a SEED (1 to 999999): how many (what = 0), COST (1). BAD; STATE: no WELL (ahead of BAD).");
        // X is 16807: GRADE 0 at STEP 1; X is 1774597664, of which 16 make 110912354: GRADE 0 at STEP 0
        with(TWO).each("drawn(1, 1, #)", -1, BAD, 1, 10, BAD).each("drawn(1, 999999, #)", -1, BAD, 1, 10, BAD);
        refused(BAD, "drawn(1, 0, 0)", "drawn(1, 1000000, 0)", "drawn(1, -1, 0)", "drawn(1, MIN, 0)", "drawn(1, MAX, 0)",
            "drawn(0, 0, 0)", "drawn(-1, 1, 0)", "drawn(61, 1, 0)", "drawn(MIN, 1, 0)", "drawn(MAX, 1, 0)");
        refused(BAD, "drawn(1, 1, -1)", "drawn(1, 1, 2)", "drawn(1, 1, MIN)", "drawn(1, 1, MAX)");
        refusedWithoutWell(STATE, "drawn(0, 1, 0)", "drawn(-1, 1, 0)", "drawn(61, 1, 0)", "drawn(0, 0, 0)", "drawn(0, 1, 2)");
    }

    private void image() {
        says("An IMAGE (0, 1) is kept of the WELL: 1. BAD; STATE: no WELL.");
        refused(BAD, "image(-1)", "image(2)", "image(MIN)", "image(MAX)");
        refusedWithoutWell(STATE, "image(0)", "image(1)");
        refusedWithoutWell(BAD, "image(-1)", "image(2)");
        // one does not touch the other; a later one is in place of the one before; what is done then is not in it
        Run x = with(TWO).is("image(0)", 1).is("restore(1)", STATE).make("lay(0, 1)").is("image(1)", 1).is("count(5)", 1);
        x.make("lay(1, 1)").is("image(0)", 1).make("lay(1, 0)", "price(0, 99)", "rule(0, 20)", "rule(3, 3)");
        x.is("restore(0)", 1).each("step(#, 0)", 0, 1, 1).is("grade(0, 4)", 10).is("stand(2)", 0).is("stand(1)", 1);
        x.make("lay(0, -1)", "lay(1, -1)").is("restore(1)", 1).each("step(#, 0)", 0, 1, -1);
        x.is("restore(0)", 1).each("step(#, 0)", 0, 1, 1);
    }

    private void restore() {
        says("The WELL is as an IMAGE kept it (no ACT can be undone then): 1. BAD; STATE: none was kept.");
        refused(BAD, "restore(-1)", "restore(2)", "restore(MIN)", "restore(MAX)");
        refused(STATE, "restore(1)");
        refusedWithoutWell(STATE, "restore(0)", "restore(1)");
        refusedWithoutWell(BAD, "restore(-1)", "restore(2)");
        Run x = with(FIVE).lay(0, 1, 2, 3, 4).make("rule(0, 3)", "image(1)", "rule(0, 4)").is("count(5)", 7);
        x.feed(TWO).is("well()", 2).make("lay(0, 1)").is("restore(1)", 1).is("count(5)", 0).is("undo()", STATE);
        x.each("stand(#)", 0, 6, 2, 3, 60, 8, 180, 20).each("step(#, 0)", 0, 0, 1, 2, 3, 4, -1).is("count(1)", 5);
        x.each("kind(#)", 0, 1, 2, 3, 4, 5).each("grade(4, #)", 0, 55, 40, 50, 2, 60);
        // a WELL that a FAULT kept out, and one that is read, leave what was kept
        x.feed("w9").make("well()").is("restore(1)", 1).is("stand(2)", 3).make("lay(5, 0)").is("undo()", 0);
    }

    private void kind() {
        says("The KIND of a GRADE, as told (1 to 5). BAD.");
        with(FIVE).each("kind(#)", -1, BAD, 1, 2, 3, 4, 5, BAD);
        refused(BAD, "kind(-1)", "kind(3)", "kind(4)", "kind(MIN)", "kind(MAX)");
        refusedWithoutWell(BAD, "kind(0)", "kind(-1)");
    }

    private void as() {
        says("A GRADE is taken as one of a KIND (0 .. 5): its number. BAD; KIND: it is no such one.");
        with(FIVE).each("as(#, 0)", -1, BAD, 0, 1, 2, 3, 4, BAD).each("as(#, 5)", 0, KIND, KIND, KIND, KIND, 4);
        // the first GRADE is thick, the second lined, the third plain
        refused(BAD, "as(-1, 0)", "as(3, 0)", "as(MIN, 0)", "as(MAX, 0)", "as(0, -1)", "as(0, 6)", "as(0, MIN)",
            "as(0, MAX)", "as(3, 1)");
        refused(KIND, "as(0, 1)", "as(0, 2)", "as(0, 3)", "as(0, 5)", "as(1, 1)", "as(2, 2)", "as(2, 3)", "as(2, 4)");
        refusedWithoutWell(BAD, "as(0, 0)", "as(-1, 0)");
    }

    private void ask() {
        says("An ASK (0, 1) of a GRADE. BAD. THE TRACE is empty ahead of it.");
        Run x = with(FIVE).each("ask(0, #)", -1, BAD, 23, 3, BAD).each("trace(#)", 0, 21, 20, NONE);
        x.is("ask(0, 1)", 3).each("trace(#)", 0, 21, 20, NONE);
        refused(BAD, "ask(-1, 0)", "ask(3, 0)", "ask(MIN, 0)", "ask(MAX, 0)", "ask(0, -1)", "ask(0, 2)", "ask(0, MIN)",
            "ask(0, MAX)");
        refusedWithoutWell(BAD, "ask(0, 0)", "ask(-1, 0)");
    }

    private void trace() {
        says("Number i of THE TRACE; NONE.");
        fresh().each("trace(#)", -1, NONE, NONE, NONE).is("trace(MIN)", NONE).is("trace(MAX)", NONE);
        Run x = with(FIVE).is("trace(0)", NONE).make("ask(3, 0)").each("trace(#)", -1, NONE, 13, 10, NONE);
        x.is("trace(15)", NONE).is("trace(16)", NONE).is("trace(MIN)", NONE).is("trace(MAX)", NONE);
        // no other call makes it empty: not a WELL that is read, nor one restored
        x.make("image(0)", "lay(0, 0)", "undo()", "restore(0)").feed(TWO).is("well()", 2).is("trace(1)", 10);
    }

    private void count() {
        says("How many: 0 ROWS, 1 GRADES, 2 STEPS, 3 STEPS that are not bare, 4 SECTIONS of what is laid "
            + "(bare STEPS part them), 5 ACTS that can be undone, 6 bytes on the tape. BAD.");
        fresh().each("count(#)", -1, BAD, 0, 0, 0, 0, 0, 0, 0, BAD).is("count(MIN)", BAD).is("count(MAX)", BAD);
        Run x = with(FIVE).each("count(#)", 0, 0, 5, 6, 0, 0, 0, 0);
        x.lay(2, -1, 2, 2, -1, 2).make("row(0, 0, 0)", "row(7, 2, 40)", "feed(0)", "feed(255)");
        x.each("count(#)", -1, BAD, 2, 5, 6, 4, 3, 4, 2, BAD);
        x.make("lay(1, 2)", "lay(4, 2)", "row(0, 1, 3)", "drop(7)").each("count(#)", 0, 1, 5, 6, 6, 1, 6, 2);
        for (int row = 0; row < 8; row++) {
            x.make("row(" + row + ", 0, 1)");
        }
        x.is("count(0)", 8);
        refused(BAD, "count(-1)", "count(7)", "count(MIN)", "count(MAX)");
        refusedWithoutWell(BAD, "count(-1)", "count(7)");
    }

    private void status() {
        says("Of the latest call with a ROW, or as(), that was not BAD, STATE, FULL: the number of its FINDING; "
            + "0: it had none, or there was none.");
        fresh().is("status()", 0).is("row(8, 0, 0)", BAD).is("status()", 0);
        Run x = with(TWO);
        String[] found = {"drop(0)", "set(1, 0, 0)", "as(0, 1)", "row(0, 0, -1)"};
        int[] numbers = {1, 1, 3, 4};
        for (int k = 0; k < found.length; k++) {
            x.make(found[k]).is("status()", numbers[k]).is("status()", numbers[k]);
            // what is BAD, STATE, FULL, or has no ROW leaves it
            x.make("row(8, 0, 0)", "set(8, 0, 0)", "copy(8, 0, 0, 0, 0)", "drop(8)", "who(2, 0, 0, 0)", "as(2, 0)");
            x.make("undo()", "lay(0, 0)", "lay(0, 0)", "feed(256)", "ask(0, 0)", "image(0)", "restore(1)");
            x.is("status()", numbers[k]).make("restore(0)", "well()").is("status()", numbers[k]);
        }
        // each call that finds nothing makes it 0
        x.make("row(0, 0, 2)").is("status()", 0).make("drop(3)").is("status()", 1).make("set(0, 0, 0)").is("status()", 0);
        x.make("set(0, 2, 0)").is("status()", 2).make("copy(0, 0, 0, 0, 1)").is("status()", 0).make("row(1, 1, 2)");
        x.make("copy(0, 0, 1, 0, 1)").is("status()", 5).make("who(0, 0, 0, 0)").is("status()", 0);
        x.make("who(0, 0, 0, 1)").is("status()", 2).make("as(0, 4)").is("status()", 0).make("who(0, 0, 3, 0)");
        x.is("status()", 1).make("drop(1)").is("status()", 0).make("as(0, 5)").is("status()", 3);
        x.make("row(1, 0, 0)").is("status()", 0);
    }
}
