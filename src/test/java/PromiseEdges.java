/** Boundary cases of the promises 1 to 17: a new object, ROWS, what is told and what is done. */
final class PromiseEdges extends Edges {
    private static final String TWO = "w2,1,0;g0,0;t9,9,99,1,10;t9,9,99,9,3;";

    PromiseEdges(Due due, Sentences sentences) {
        super(due, sentences);
    }

    @Override
    void all() {
        newObject();
        row();
        set();
        copy();
        drop();
        feed();
        well();
        fault();
        undo();
        lay();
        layBest();
        rule();
        price();
        grade();
        step();
        bears();
        stand();
    }

    private void newObject() {
        says("No WELL.");
        fresh().each("stand(#)", 0, STATE, STATE, STATE, STATE, STATE, STATE, STATE, STATE, STATE);
        fresh().each("count(#)", -1, BAD, 0, 0, 0, 0, 0, 0, 0, BAD);
        fresh().is("fault()", 0).is("status()", 0).is("trace(0)", NONE).is("undo()", STATE).is("layBest()", STATE);
        fresh().is("step(0, 0)", BAD).is("grade(0, 0)", BAD).is("kind(0)", BAD).is("lay(0, -1)", BAD);
        fresh().each("restore(#)", 0, STATE, STATE).each("image(#)", 0, STATE, STATE);
    }

    private void row() {
        says("A ROW of a LANE with n ITEMS, in place of what is there: n. BAD: ROW, LANE, n above 40; SIZE.");
        fresh().is("row(0, 0, 0)", 0).is("row(0, 1, 40)", 40).is("row(7, 2, 1)", 1);
        refused(BAD, "row(-1, 0, 1)", "row(8, 0, 1)", "row(MIN, 0, 1)", "row(MAX, 0, 1)");
        refused(BAD, "row(0, -1, 1)", "row(0, 3, 1)", "row(0, MIN, 1)", "row(0, MAX, 1)");
        refused(BAD, "row(0, 0, 41)", "row(0, 0, MAX)", "row(3, 0, 41)");
        refused(SIZE, "row(0, 0, -1)", "row(0, 2, MIN)", "row(3, 0, -1)");
        refused(BAD, "row(8, 0, -1)", "row(0, 3, -1)", "row(-1, 0, MIN)");
        // in place of what is there: of another LANE, other ends, and 0 again
        Run x = with(TWO.replace("9,3;", "9,30;")).is("row(0, 0, 4)", 4).put(0, 0, 1, 1, 1, 1);
        x.is("who(0, 1, 0, 0)", 0).is("row(0, 0, 4)", 4).is("who(0, 1, 0, 0)", 6).is("who(0, 1, 0, 2)", 6);
        x.put(0, 0, 1, 1, 1, 1).is("row(0, 2, 2)", 2).is("set(0, 2, 0)", PLACE).is("set(0, 1, 1000)", 1000);
        x.is("row(0, 2, 3)", 3).is("who(0, 1, 0, 0)", 6).is("who(0, 1, 0, 1)", 6).is("count(0)", 1);
    }

    private void set() {
        says("ITEM i becomes v, its lowest bits, as many as the LANE has: what it is then. BAD: ROW; NULL; PLACE.");
        Run x = fresh().make("row(0, 0, 1)", "row(1, 1, 1)", "row(2, 2, 1)");
        int[] values = {0, 1, -1, 127, 128, 255, 256, -128, -129, -256, 32767, 32768, 65535, 65536, -32768, -32769,
            Integer.MAX_VALUE, Integer.MIN_VALUE};
        int[] bytes = {0, 1, -1, 127, -128, -1, 0, -128, 127, 0, -1, 0, -1, 0, 0, -1, -1, 0};
        int[] shorts = {0, 1, -1, 127, 128, 255, 256, -128, -129, -256, 32767, -32768, -1, 0, -32768, 32767, -1, 0};
        for (int k = 0; k < values.length; k++) {
            x.is("set(0, 0, " + values[k] + ")", bytes[k]);
            x.is("set(1, 0, " + values[k] + ")", shorts[k]);
            x.is("set(2, 0, " + values[k] + ")", values[k]);
        }
        refused(BAD, "set(-1, 0, 1)", "set(8, 0, 1)", "set(MIN, 0, 1)", "set(MAX, 0, 1)", "set(8, -1, 1)");
        refused(NULL, "set(3, 0, 1)", "set(6, 0, 1)", "set(3, -1, 1)", "set(3, 40, 1)");
        refused(PLACE, "set(0, -1, 1)", "set(0, 4, 1)", "set(2, 0, 1)", "set(7, 40, 1)", "set(0, MIN, 1)", "set(0, MAX, 1)");
        // what it became is what is there
        Run y = with(TWO.replace("9,3;", "9,30;")).make("row(0, 0, 40)");
        y.is("who(0, 1, 0, 38)", 6).is("set(0, 39, 1)", 1).is("who(0, 1, 0, 38)", 0).is("set(0, 39, 256)", 0);
        y.is("who(0, 1, 0, 38)", 6).is("set(0, 0, 1)", 1).is("who(0, 1, 0, 0)", 0).is("who(0, 1, 0, 1)", 6);
    }

    private void copy() {
        says("n ITEMS of a from i on come to b from j on, as they were ahead: n. "
            + "BAD: ROWS; NULL; STORE; PLACE (i, j, n below 0, or beyond an end).");
        refused(BAD, "copy(-1, 0, 0, 0, 0)", "copy(8, 0, 0, 0, 0)", "copy(0, 0, -1, 0, 0)", "copy(0, 0, 8, 0, 0)",
            "copy(MIN, 0, 0, 0, 0)", "copy(0, 0, MAX, 0, 0)", "copy(3, 0, 8, 0, 0)");
        refused(NULL, "copy(3, 0, 0, 0, 0)", "copy(0, 0, 3, 0, 0)", "copy(3, 0, 3, 0, 0)", "copy(3, -1, 0, -1, -1)");
        refused(STORE, "copy(0, 0, 1, 0, 0)", "copy(1, 0, 0, 0, 1)", "copy(2, 0, 7, 0, 0)", "copy(0, -1, 2, -1, -1)");
        refused(PLACE, "copy(0, -1, 7, 0, 1)", "copy(0, 0, 7, -1, 1)", "copy(0, 0, 7, 0, -1)", "copy(0, 0, 7, 0, 5)",
            "copy(0, 1, 7, 0, 4)", "copy(7, 0, 0, 0, 5)", "copy(7, 0, 0, 1, 4)", "copy(0, 5, 7, 0, 0)");
        refused(PLACE, "copy(0, 0, 0, 5, 0)", "copy(2, 0, 2, 0, 1)", "copy(2, 1, 2, 0, 0)", "copy(7, 0, 7, 0, 41)",
            "copy(0, MAX, 7, 0, 1)", "copy(0, 0, 7, MAX, 1)", "copy(0, 0, 7, 0, MAX)", "copy(0, MAX, 7, MAX, MAX)");
        refused(PLACE, "copy(0, MIN, 7, 0, 1)", "copy(0, 0, 7, MIN, 1)", "copy(0, 0, 7, 0, MIN)",
            "copy(0, MIN, 7, MIN, MIN)", "copy(0, 1, 7, 0, MAX)", "copy(0, 0, 7, 1, MAX)", "copy(0, -1, 0, -1, 1)");
        Run x = fresh().make("row(0, 0, 4)", "row(1, 0, 40)", "row(2, 2, 0)");
        x.is("copy(0, 4, 1, 40, 0)", 0).is("copy(2, 0, 2, 0, 0)", 0).is("copy(0, 0, 1, 36, 4)", 4);
        x.is("copy(1, 36, 0, 0, 4)", 4).is("copy(1, 0, 1, 0, 40)", 40).is("copy(0, 3, 0, 3, 1)", 1);
        copyUponItself();
    }

    /** BEST is 0, 1: ITEMS are told from it. */
    private void copyUponItself() {
        String text = "w2,1,0;g9,9;t9,9,99,1,5;t8,9,99,1,1;";
        // 0 1 0 0 0 moves on by one: 0 0 1 0 0; as they were ahead, not one by one
        Run x = with(text).make("row(0, 0, 5)").put(0, 0, 0, 1).is("copy(0, 0, 0, 1, 4)", 4);
        x.each("who(0, 1, 0, #)", 0, 4, 2, 0, 4);
        // 0 0 1 0 1 moves back by one: 0 1 0 1 1
        x.put(0, 4, 1).is("copy(0, 1, 0, 0, 4)", 4).each("who(0, 1, 0, #)", 0, 2, 0, 2, 0);
        // to another, and what is not copied stays
        x.make("row(1, 0, 5)").is("copy(0, 1, 1, 3, 1)", 1).each("who(0, 1, 1, #)", 0, 4, 4, 2, 0);
        x.each("who(0, 1, 0, #)", 0, 2, 0, 2, 0);
    }

    private void drop() {
        says("A ROW is missing from now on: how many ITEMS it had. BAD; NULL.");
        refused(BAD, "drop(-1)", "drop(8)", "drop(MIN)", "drop(MAX)");
        refused(NULL, "drop(3)", "drop(6)");
        Run x = fresh().make("row(0, 0, 0)", "row(7, 2, 40)", "row(3, 1, 1)").is("count(0)", 3);
        x.is("drop(0)", 0).is("drop(0)", NULL).is("drop(7)", 40).is("drop(7)", NULL).is("count(0)", 1);
        x.is("set(7, 0, 1)", NULL).is("copy(7, 0, 3, 0, 0)", NULL).is("copy(3, 0, 7, 0, 0)", NULL).is("drop(3)", 1);
        x.is("row(7, 0, 2)", 2).is("set(7, 2, 0)", PLACE).is("set(7, 1, 300)", 44).is("count(0)", 1);
    }

    private void feed() {
        says("A byte (0 to 255) comes behind the tape: how many it has. BAD; FULL.");
        fresh().is("feed(0)", 1).is("feed(255)", 2).is("feed(-1)", BAD).is("feed(256)", BAD).is("count(6)", 2);
        refused(BAD, "feed(-1)", "feed(256)", "feed(MIN)", "feed(MAX)", "feed(375)", "feed(-137)");
        refusedByFullTape(FULL, "feed(0)", "feed(59)", "feed(255)");
        refusedByFullTape(BAD, "feed(-1)", "feed(256)");
    }

    private void well() {
        says("The tape, empty then, is read: how many GRADES there are. -1000100 less the place of a FAULT: all stays.");
        Run x = fresh().is("well()", -1000100).feed(TWO).is("count(6)", TWO.length()).is("well()", 2);
        x.is("count(6)", 0).is("well()", -1000100).is("count(1)", 2).is("count(2)", 2);
        x.feed("w3,1,0;g0,0;t1,1,1,1,1;x").is("well()", -1000123).is("count(6)", 0).is("count(2)", 2);
        x.feed(TWO).is("well()", 2);
        // all stays behind a FAULT at the very end, when all but that could be read
        Run y = with("w3,2,4;g30,7;p11,12,13,4,15;l21,22,23,5,25;").lay(0, 1).make("rule(0, 9)", "image(0)");
        y.feed("w8,3,1;g40,5;t31,32,33,4,35;t31,32,33,4,35").is("well()", -1000142);
        y.each("stand(#)", 0, 3, 2, 9, 30, 7, 40, 9).each("step(#, 0)", 0, 0, 1, -1).each("kind(#)", 0, 1, 5, BAD);
        y.each("grade(0, #)", 0, 11, 12, 13, 4, 15).each("grade(1, #)", 0, 21, 22, 23, 5, 25);
        y.is("count(5)", 3).is("undo()", 2).is("stand(2)", 4).is("undo()", 1).is("step(1, 0)", -1).is("restore(0)", 1);
        y.is("stand(2)", 9);
    }

    private void fault() {
        says("The number of the latest FAULT; 0 before one.");
        Run x = fresh().is("fault()", 0).feed(TWO).make("well()").is("fault()", 0).make("well()").is("fault()", 1);
        x.feed("w9").make("well()").is("fault()", 2).feed(TWO).is("well()", 2).is("fault()", 2);
        x.feed("w2,1,0;g0,0;" + "t1,1,1,1,1;".repeat(5) + "t").make("well()").is("fault()", 3);
        x.make("feed(256)", "undo()", "lay(9, 9)").is("fault()", 3).feed("w").make("well()").is("fault()", 1);
    }

    private void undo() {
        says("The latest ACT is undone: how many can be undone yet. STATE: none.");
        Run x = with(TWO).is("undo()", STATE).make("lay(0, 1)").is("undo()", 0).is("undo()", STATE).is("step(0, 0)", -1);
        x.make("lay(0, 1)", "lay(0, 0)", "rule(0, 5)").is("undo()", 2).is("undo()", 1).is("step(0, 0)", 1);
        x.is("undo()", 0).is("undo()", STATE).is("count(5)", 0);
        refusedWithoutWell(STATE, "undo()");
        // an undone ACT is no ACT: it cannot be undone in turn
        x.make("price(1, 7)").is("undo()", 0).is("grade(1, 4)", 3).is("undo()", STATE).is("grade(1, 4)", 3);
    }

    private void lay() {
        says("A GRADE is laid at a STEP (-1: it is made bare): what was there (-1). BAD; STATE: it is that.");
        with(TWO).is("lay(1, 1)", -1).is("lay(1, 0)", 1).is("lay(1, -1)", 0).is("lay(1, 0)", -1).is("count(5)", 4);
        with(TWO).is("lay(0, -1)", STATE).is("lay(0, 0)", -1).is("lay(0, 0)", STATE).is("count(5)", 1);
        refused(BAD, "lay(-1, 0)", "lay(3, 0)", "lay(MIN, 0)", "lay(MAX, 0)", "lay(3, -1)", "lay(-1, -1)");
        refused(BAD, "lay(0, -2)", "lay(0, 3)", "lay(0, MIN)", "lay(0, MAX)", "lay(0, 5)");
        refused(STATE, "lay(0, 2)", "lay(1, 0)", "lay(2, 1)");
        refusedWithoutWell(BAD, "lay(0, 0)", "lay(0, -1)", "lay(-1, -1)");
    }

    private void layBest() {
        says("BEST is laid: its COST; NONE: there is none (no ACT). STATE: no WELL.");
        refusedWithoutWell(STATE, "layBest()");
        Run x = with(TWO).is("layBest()", 6).each("step(#, 0)", 0, 1, 1).is("count(5)", 1).is("stand(5)", 6);
        x.make("lay(0, 0)", "rule(3, 3)").is("layBest()", NONE).is("count(5)", 3).each("step(#, 0)", 0, 0, 1);
        x.make("rule(3, 2)").is("layBest()", 6).is("count(5)", 5).is("undo()", 4).each("step(#, 0)", 0, 0, 1);
        // BEST that is laid already is laid again
        x.make("rule(3, 1)").is("layBest()", 6).is("layBest()", 6).is("count(5)", 7).is("undo()", 6).is("stand(5)", 6);
        // no ACT when 24 are kept: none is forgotten
        Run y = with("w2,3,0;g0,0;t9,9,99,1,10;");
        for (int i = 1; i <= 24; i++) {
            y.make("rule(1, " + i + ")");
        }
        y.is("layBest()", NONE).is("count(5)", 24);
        for (int left = 23; left >= 0; left--) {
            y.is("undo()", left);
        }
        y.is("stand(3)", 0);
    }

    private void rule() {
        says("MUD (which = 0; 0 to 20), TOP (1; 0 to 99), FALL (2; 0 to 20), LEAST (3; 1 to 3) is v: what it was. "
            + "BAD; STATE: no WELL (ahead of BAD).");
        Run x = with("w2,2,7;g8,9;t9,9,99,1,10;");
        x.is("rule(0, 0)", 7).is("rule(0, 20)", 0).is("stand(2)", 20).is("rule(1, 0)", 8).is("rule(1, 99)", 0);
        x.is("stand(3)", 99).is("rule(2, 0)", 9).is("rule(2, 20)", 0).is("stand(4)", 20).is("rule(3, 1)", 2);
        x.is("rule(3, 3)", 1).is("stand(1)", 3).is("count(5)", 8);
        // what it is already is not refused, as it is for lay(), and is an ACT as well
        x.is("rule(3, 3)", 3).is("count(5)", 9).is("undo()", 8).is("stand(1)", 3);
        refused(BAD, "rule(-1, 1)", "rule(4, 1)", "rule(MIN, 1)", "rule(MAX, 1)", "rule(0, -1)", "rule(0, 21)",
            "rule(1, -1)", "rule(1, 100)", "rule(2, -1)", "rule(2, 21)", "rule(3, 0)", "rule(3, 4)");
        refused(BAD, "rule(0, MIN)", "rule(0, MAX)", "rule(1, MIN)", "rule(1, MAX)", "rule(3, MIN)", "rule(3, MAX)");
        refusedWithoutWell(STATE, "rule(0, 1)", "rule(4, 1)", "rule(-1, -1)", "rule(3, 0)", "rule(0, MAX)");
    }

    private void price() {
        says("PRICE of a GRADE (1 to 99): what it was. BAD.");
        Run x = with(TWO).is("price(0, 1)", 10).is("price(0, 99)", 1).is("grade(0, 4)", 99).is("price(1, 2)", 3);
        x.is("grade(0, 4)", 99).is("grade(1, 4)", 2).is("grade(1, 3)", 9).is("count(5)", 3);
        x.is("price(1, 2)", 2).is("count(5)", 4).is("undo()", 3).is("grade(1, 4)", 2);
        refused(BAD, "price(-1, 1)", "price(3, 1)", "price(MIN, 1)", "price(MAX, 1)", "price(4, 1)");
        refused(BAD, "price(0, 0)", "price(0, 100)", "price(0, MIN)", "price(0, MAX)", "price(0, -1)");
        refusedWithoutWell(BAD, "price(0, 1)", "price(-1, 0)");
    }

    private void grade() {
        says("Of a GRADE: 0 BURST, 1 CRUSH, 2 PULL, 3 HEFT, 4 PRICE. BAD.");
        Run x = with("w2,1,0;g0,0;l1,2,3,4,5;b99,98,97,9,96;");
        x.each("grade(0, #)", -1, BAD, 1, 2, 3, 4, 5, BAD).each("grade(1, #)", -1, BAD, 99, 98, 97, 9, 96, BAD);
        refused(BAD, "grade(-1, 0)", "grade(3, 0)", "grade(MIN, 0)", "grade(MAX, 0)", "grade(0, -1)", "grade(0, 5)",
            "grade(0, MIN)", "grade(0, MAX)", "grade(2, 5)");
        refusedWithoutWell(BAD, "grade(0, 0)", "grade(-1, 0)");
    }

    private void step() {
        says("Of a STEP: 0 its GRADE (-1), 1 to 3 LOADS: BURST, CRUSH, PULL, 4 whether it HOLDS (1, 0), "
            + "5 the SECTION in which it is: how many STEPS (0: it is bare). BAD.");
        Run x = with("w3,1,2;g30,20;t30,9,99,4,10;t9,9,99,9,3;").lay(0, 0);
        x.each("step(0, #)", -1, BAD, 0, 30, 2, 8, 1, 2, BAD).each("step(1, #)", -1, BAD, 0, 10, 4, 4, 1, 2, BAD);
        x.each("step(2, #)", -1, BAD, -1, 0, 6, 0, 0, 0, BAD);
        refused(BAD, "step(-1, 0)", "step(3, 0)", "step(MIN, 0)", "step(MAX, 0)", "step(0, -1)", "step(0, 6)",
            "step(0, MIN)", "step(0, MAX)", "step(7, 0)");
        refusedWithoutWell(BAD, "step(0, 0)", "step(-1, 0)");
    }

    private void bears() {
        says("What a STEP bears of BURST (what = 0), CRUSH (1), PULL (2), as it is laid. BAD; STATE: it is bare.");
        Run x = with("w3,1,0;g0,0;p7,99,20,9,1;l8,9,20,1,1;").each("bears(0, #)", -1, BAD, STATE, STATE, STATE, BAD);
        // as it is laid: by what pulls now
        x.lay(0).each("bears(0, #)", -1, BAD, 7, 59, 20, BAD).lay(0, 0).is("bears(0, 1)", 9).is("bears(1, 1)", 59);
        x.make("lay(2, 1)").is("bears(0, 1)", 9).is("bears(1, 1)", 49).each("bears(2, #)", 0, 18, 9, 20);
        refused(BAD, "bears(-1, 0)", "bears(3, 0)", "bears(MIN, 0)", "bears(MAX, 0)", "bears(0, -1)", "bears(0, 3)",
            "bears(0, MIN)", "bears(0, MAX)");
        refusedWithoutWell(BAD, "bears(0, 0)", "bears(-1, 0)");
    }

    private void stand() {
        says("0 STEPS, 1 LEAST, 2 MUD, 3 TOP, 4 FALL, 5 COST of what is laid, 6 HEFT of it, 7 the first STEP that does "
            + "not HOLD (NONE), 8 whether it is SOUND (1, 0). BAD; STATE: no WELL (ahead of BAD).");
        Run x = with("w3,2,1;g9,4;t9,9,99,3,7;t5,9,99,9,5;").each("stand(#)", -1, BAD, 3, 2, 1, 9, 4, 0, 0, 0, 0, BAD);
        x.lay(0).is("stand(7)", 1).lay(0, 1, 1).each("stand(#)", 5, 17, 21, NONE, 0).lay(0, 0, 0);
        x.each("stand(#)", 5, 21, 9, NONE, 1).lay(1, 1, 1).each("stand(#)", 5, 15, 27, 0, 0);
        x.lay(0, 0, -1).each("stand(#)", 5, 14, 6, 2, 0);
        refused(BAD, "stand(-1)", "stand(9)", "stand(MIN)", "stand(MAX)");
        refusedWithoutWell(STATE, "stand(0)", "stand(8)", "stand(-1)", "stand(9)", "stand(MIN)", "stand(MAX)");
    }
}
