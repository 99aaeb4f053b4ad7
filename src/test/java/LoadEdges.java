/** Boundary cases of section 2: LOADS, what is borne, SECTIONS, BEST and ACTS. */
final class LoadEdges extends Edges {
    LoadEdges(Due due, Sentences sentences) {
        super(due, sentences);
    }

    @Override
    void all() {
        burst();
        crush();
        pull();
        burstBorne();
        pullBorne();
        crushBorne();
        holds();
        sections();
        sound();
        cost();
        best();
        bestOfSeveral();
        noBest();
        actsKept();
        actsUndone();
    }

    private void burst() {
        says("======== 2 LOADS of a STEP: BURST: TOP less FALL times its number (0 at least);");
        with("w8,1,0;g20,10;t9,9,9,1,1;").each("step(#, 1)", 0, 20, 10, 0, 0, 0, 0, 0, 0);
        with("w8,1,0;g19,10;t9,9,9,1,1;").each("step(#, 1)", 0, 19, 9, 0, 0, 0, 0, 0, 0);
        with("w8,1,0;g99,20;t9,9,9,1,1;").each("step(#, 1)", 0, 99, 79, 59, 39, 19, 0, 0, 0);
        with("w8,1,0;g99,14;t9,9,9,1,1;").each("step(#, 1)", 5, 29, 15, 1);
        with("w8,1,0;g99,0;t9,9,9,1,1;").each("step(#, 1)", 0, 99, 99, 99, 99, 99, 99, 99, 99);
        with("w8,1,0;g0,20;t9,9,9,1,1;").each("step(#, 1)", 0, 0, 0, 0, 0, 0, 0, 0, 0);
    }

    private void crush() {
        says("CRUSH: MUD times its number and 1;");
        with("w8,1,20;g0,0;t9,9,9,1,1;").each("step(#, 2)", 0, 20, 40, 60, 80, 100, 120, 140, 160);
        with("w8,1,1;g0,0;t9,9,9,1,1;").each("step(#, 2)", 0, 1, 2, 3, 4, 5, 6, 7, 8);
        with("w8,1,0;g0,0;t9,9,9,1,1;").each("step(#, 2)", 0, 0, 0, 0, 0, 0, 0, 0, 0);
    }

    private void pull() {
        says("PULL: HEFT of all STEPS from it on down, together "
            + "(those that are bare have none; of a STEP that is bare itself the LOAD of PULL is 0).");
        Run x = with("w8,1,0;g0,0;t9,9,9,9,1;t9,9,9,1,1;");
        x.each("step(#, 3)", 0, 0, 0, 0, 0, 0, 0, 0, 0);
        x.lay(0, 0, 0, 0, 0, 0, 0, 0).each("step(#, 3)", 0, 72, 63, 54, 45, 36, 27, 18, 9);
        x.lay(1, -1, 1, -1, -1).each("step(#, 3)", 0, 29, 0, 28, 0, 0, 27, 18, 9);
        x.make("lay(7, -1)").each("step(#, 3)", 0, 20, 0, 19, 0, 0, 18, 9, 0);
        x.make("lay(6, -1)", "lay(5, -1)", "lay(2, -1)").each("step(#, 3)", 0, 1, 0, 0, 0, 0, 0, 0, 0);
    }

    private void burstBorne() {
        says("BEARS of a GRADE at a PULL: BURST: BURST of it, of a lined one 10 more;");
        String most = "p99,9,9,1,1;h99,9,9,1,1;b99,9,9,1,1;t99,9,9,1,1;l99,9,9,1,1;";
        with("w5,1,0;g0,0;" + most).lay(0, 1, 2, 3, 4).each("bears(#, 0)", 0, 99, 99, 99, 99, 109);
        with("w5,1,0;g0,0;" + most.replace("99", "1")).lay(0, 1, 2, 3, 4).each("bears(#, 0)", 0, 1, 1, 1, 1, 11);
    }

    private void pullBorne() {
        says("PULL: PULL of it, of a brittle one half (rounded up);");
        with("w5,1,0;g0,0;b9,9,1,1,1;b9,9,2,1,1;b9,9,3,1,1;b9,9,98,1,1;b9,9,99,1,1;").lay(0, 1, 2, 3, 4)
            .each("bears(#, 2)", 0, 1, 1, 2, 49, 50);
        with("w4,1,0;g0,0;p9,9,99,1,1;h9,9,1,1,1;t9,9,99,1,1;l9,9,1,1,1;").lay(0, 1, 2, 3)
            .each("bears(#, 2)", 0, 99, 1, 99, 1);
    }

    /** What the top STEP bears of CRUSH at a PULL of 1, 2, .. */
    private void bearsOfCrush(String grade, int... due) {
        Run x = with("w8,1,0;g0,0;" + grade + "t9,9,99,1,1;").make("lay(0, 0)");
        for (int pull = 1; pull <= due.length; pull++) {
            is("step(0, 3) of " + grade, x.ask("step(0, 3)"), pull);
            is("bears(0, 1) of " + grade + " at " + pull, x.ask("bears(0, 1)"), due[pull - 1]);
            x.ask("lay(" + pull + ", 1)");
        }
    }

    private void crushBorne() {
        says("CRUSH: of a thick, a lined one CRUSH of it; else CRUSH of it times (10 less DENT) by 10 (cut), DENT being "
            + "10 times the PULL by what it bears of PULL (cut; 10 at most), of a hard one half of that (cut).");
        bearsOfCrush("t9,99,4,1,1;", 99, 99, 99, 99, 99, 99, 99, 99);
        bearsOfCrush("l9,99,4,1,1;", 99, 99, 99, 99, 99, 99, 99, 99);
        // DENT is 2 (cut), 5, 7 (cut), 10, and 10 at most
        bearsOfCrush("p9,99,4,1,1;", 79, 49, 29, 0, 0, 0, 0, 0);
        bearsOfCrush("b9,99,7,1,1;", 79, 49, 29, 0, 0, 0, 0, 0);
        bearsOfCrush("b9,99,8,1,1;", 79, 49, 29, 0, 0, 0, 0, 0);
        // half of that is 1, 2 (cut), 3 (cut), 5, and 5 at most
        bearsOfCrush("h9,99,4,1,1;", 89, 79, 69, 49, 49, 49, 49, 49);
        // DENT is 0 (cut) and 1
        bearsOfCrush("p9,99,11,1,1;", 99, 89);
        bearsOfCrush("p9,99,10,1,1;", 89, 79);
        bearsOfCrush("h9,99,10,1,1;", 99, 89);
        bearsOfCrush("p9,1,10,1,1;", 0, 0);
        bearsOfCrush("p9,1,11,1,1;", 1, 0);
        bearsOfCrush("p9,99,1,1,1;", 0, 0);
        bearsOfCrush("b9,99,1,1,1;", 0, 0);
        bearsOfCrush("h9,1,1,1,1;", 0, 0);
        bearsOfCrush("h9,2,1,1,1;", 1, 1);
    }

    /** Whether STEPS of one GRADE HOLD, all being laid of it. */
    private void holdOf(String text, long... due) {
        Run x = with(text);
        for (int step = 0; step < due.length; step++) {
            x.ask("lay(" + step + ", 0)");
        }
        for (int step = 0; step < due.length; step++) {
            is("step(" + step + ", 4) of " + text, x.ask("step(" + step + ", 4)"), due[step]);
        }
    }

    private void holds() {
        says("A STEP HOLDS, if it is not bare, and bears each of its LOADS (is no less).");
        with("w2,1,0;g0,0;t9,9,9,1,1;").each("step(#, 4)", 0, 0, 0).lay(-1, 0).each("step(#, 4)", 0, 0, 1);
        holdOf("w2,1,0;g9,0;t9,9,99,1,1;", 1, 1);
        holdOf("w2,1,0;g10,0;t9,9,99,1,1;", 0, 0);
        holdOf("w2,1,0;g10,1;t9,9,99,1,1;", 0, 1);
        holdOf("w2,1,0;g19,0;l9,9,99,1,1;", 1, 1);
        holdOf("w2,1,0;g20,0;l9,9,99,1,1;", 0, 0);
        holdOf("w2,1,9;g0,0;t9,18,99,1,1;", 1, 1);
        holdOf("w2,1,9;g0,0;t9,17,99,1,1;", 1, 0);
        holdOf("w2,1,9;g0,0;t9,8,99,1,1;", 0, 0);
        holdOf("w2,1,0;g0,0;t9,9,2,1,1;", 1, 1);
        holdOf("w2,1,0;g0,0;t9,9,1,1,1;", 0, 1);
        holdOf("w2,1,0;g0,0;b9,9,3,1,1;", 1, 1);
        holdOf("w2,1,0;g0,0;b9,9,2,1,1;", 0, 1);
        // all that pulls is all it bears: it bears nothing of CRUSH, which is enough without MUD
        holdOf("w2,1,0;g0,0;p9,99,2,1,1;", 1, 1);
        holdOf("w2,1,1;g0,0;p9,99,2,1,1;", 0, 1);
    }

    private void sections() {
        says("SECTIONS of a string (a GRADE for each STEP): "
            + "rows of STEPS of one GRADE side by side, as long as may be.");
        Run x = with("w8,1,0;g0,0;t9,9,99,1,1;t9,9,99,1,1;");
        x.each("step(#, 5)", 0, 0, 0, 0, 0, 0, 0, 0, 0).is("count(4)", 0);
        x.lay(0, 0, 0, 1, 0, 0, -1, 0).each("step(#, 5)", 0, 3, 3, 3, 1, 2, 2, 0, 1).is("count(4)", 4);
        x.make("lay(3, 0)", "lay(6, 0)").each("step(#, 5)", 0, 8, 8, 8, 8, 8, 8, 8, 8).is("count(4)", 1);
        x.lay(1, 0, 1, 0, 1, 0, 1, 0).each("step(#, 5)", 0, 1, 1, 1, 1, 1, 1, 1, 1).is("count(4)", 8);
    }

    private void soundOf(int least, int due, int... string) {
        Run x = with("w" + string.length + "," + least + ",0;g0,0;t9,9,99,1,1;t9,9,99,1,1;").lay(string);
        is("stand(8) by LEAST " + least, x.ask("stand(8)"), due);
    }

    private void sound() {
        says("A string is SOUND, if each STEP HOLDS, and each SECTION has LEAST STEPS or more.");
        soundOf(3, 1, 0, 0, 0, 1, 1, 1, 1, 1);
        soundOf(3, 0, 0, 0, 1, 1, 1, 1, 1, 1);
        soundOf(3, 0, 0, 0, 0, 0, 0, 0, 1, 1);
        soundOf(3, 0, 0, 0, 0, 1, 1, 0, 0, 0);
        soundOf(2, 1, 0, 0, 0, 1, 1, 0, 0, 0);
        soundOf(2, 0, 0, 0, 0, 1, 0, 0, 0, 0);
        soundOf(1, 1, 0, 1, 0, 1, 0, 1, 0, 1);
        soundOf(3, 0, 0, 0);
        soundOf(2, 1, 0, 0);
        soundOf(2, 0, 0, 1);
        soundOf(1, 0, 0, -1);
        soundOf(1, 0, -1, -1);
        with("w2,1,0;g9,0;t9,9,99,1,1;t8,9,99,1,1;").lay(0, 0).is("stand(8)", 1).make("lay(1, 1)").is("stand(8)", 0);
    }

    private void cost() {
        says("COST: PRICES of all STEPS together (0 of a bare one).");
        Run x = with("w8,1,0;g0,0;t9,9,99,1,99;t9,9,99,1,1;").is("stand(5)", 0);
        x.make("lay(7, 1)").is("stand(5)", 1).make("lay(0, 0)").is("stand(5)", 100);
        x.lay(-1, 0, 0, 0, 0, 0, 0, 0).is("stand(5)", 693).make("lay(0, 0)").is("stand(5)", 792);
    }

    private void bestIs(String text, int cost, int heft, int... string) {
        Run x = with(text);
        is("best(0) of " + text, x.ask("best(0)"), cost);
        is("best(1) of " + text, x.ask("best(1)"), heft);
        for (int step = 0; step < string.length; step++) {
            is("best(" + (10 + step) + ") of " + text, x.ask("best(" + (10 + step) + ")"), string[step]);
        }
    }

    private void best() {
        says("BEST: of all SOUND strings the one of the least COST,");
        // the dear one is light, and the first
        bestIs("w2,1,0;g0,0;t9,9,99,1,4;t9,9,99,9,3;", 6, 18, 1, 1);
        // what does not HOLD is left out, at one STEP of BURST, of CRUSH, of PULL
        bestIs("w3,1,0;g20,1;t19,9,99,1,1;t20,9,99,1,2;", 4, 3, 1, 0, 0);
        bestIs("w3,1,3;g0,0;t9,8,99,1,1;t9,9,99,1,2;", 4, 3, 0, 0, 1);
        bestIs("w3,1,0;g0,0;t9,9,2,1,1;t9,9,3,1,2;", 4, 3, 1, 0, 0);
        // so is what has too short a SECTION
        bestIs("w4,2,0;g20,1;t19,9,99,1,1;t20,9,99,1,2;", 6, 4, 1, 1, 0, 0);
        bestIs("w3,2,0;g20,1;t19,9,99,1,1;t20,9,99,1,2;", 6, 3, 1, 1, 1);
        bestIs("w5,3,0;g20,1;t19,9,99,1,1;t20,9,99,1,2;", 10, 5, 1, 1, 1, 1, 1);
        bestIs("w6,3,0;g20,1;t19,9,99,1,1;t20,9,99,1,2;", 9, 6, 1, 1, 1, 0, 0, 0);
        // the greatest COST and HEFT there can be
        bestIs("w8,3,0;g0,0;t9,9,72,9,99;", 792, 72, 0, 0, 0, 0, 0, 0, 0, 0);
        bestIs("w8,3,0;g0,0;t9,9,71,9,99;t1,9,71,9,99;t1,9,71,9,99;t1,9,71,9,99;t1,9,72,9,99;", 792, 72,
            4, 4, 4, 0, 0, 0, 0, 0);
    }

    private void bestOfSeveral() {
        says("of several that of the least HEFT in all, of several the first by its GRADES from the lowest STEP up "
            + "(the lesser GRADE ahead):");
        bestIs("w2,1,0;g0,0;t9,9,99,2,3;t9,9,99,1,3;", 6, 2, 1, 1);
        bestIs("w2,1,0;g0,0;t9,9,99,1,3;t9,9,99,1,3;", 6, 2, 0, 0);
        // the heavy cheap one can be laid but once: at the top, since the lowest STEPS come first
        bestIs("w2,1,0;g0,0;t9,9,99,1,10;t9,9,10,9,3;", 13, 10, 1, 0);
        bestIs("w3,1,0;g0,0;t9,9,99,1,10;t9,9,11,9,3;", 23, 11, 1, 0, 0);
        // at the lowest STEP, if it is the lesser GRADE
        bestIs("w2,1,0;g0,0;t9,9,10,9,3;t9,9,99,1,10;", 13, 10, 1, 0);
        bestIs("w3,1,0;g0,0;t9,9,11,9,3;t9,9,99,1,10;", 23, 11, 1, 1, 0);
    }

    private void noBest() {
        says("COST; HEFT; the GRADE of a STEP; NONE.");
        bestIs("w2,3,0;g0,0;t9,9,99,1,1;", NONE, NONE, NONE, NONE);
        bestIs("w2,2,0;g0,0;t9,9,99,1,7;", 14, 2, 0, 0);
        bestIs("w2,1,0;g10,0;t9,9,99,1,1;", NONE, NONE, NONE, NONE);
        bestIs("w2,1,10;g0,0;t9,19,99,1,1;", NONE, NONE, NONE, NONE);
        bestIs("w8,3,0;g0,0;t9,9,71,9,99;", NONE, NONE, NONE, NONE, NONE, NONE, NONE, NONE, NONE, NONE);
        bestIs("w2,2,0;g9,9;t9,9,1,1,1;p1,9,9,1,1;", NONE, NONE, NONE, NONE);
        bestIs("w2,1,0;g9,9;t9,9,2,1,1;p1,9,9,1,1;", 2, 2, 0, 0);
    }

    private void actsKept() {
        says("ACTS (24 at most are kept, of more the oldest is forgotten; each can be undone, the latest first):");
        for (int acts = 23; acts <= 26; acts++) {
            Run x = with("w2,1,0;g0,0;t9,9,99,1,1;");
            for (int i = 1; i <= acts; i++) {
                x.is("rule(1, " + i + ")", i - 1).is("count(5)", Math.min(i, 24));
            }
            for (int left = Math.min(acts, 24) - 1; left >= 0; left--) {
                x.is("undo()", left).is("stand(3)", acts - Math.min(acts, 24) + left);
            }
            x.is("undo()", STATE).is("count(5)", 0).is("stand(3)", Math.max(0, acts - 24));
        }
        Run x = with("w2,1,0;g0,0;t9,9,99,1,1;t9,9,99,1,2;").make("lay(1, 1)", "price(0, 50)", "layBest()");
        for (int i = 1; i <= 22; i++) {
            x.make("rule(0, " + i % 21 + ")");
        }
        // 25 ACTS: the first is forgotten, the next two are not
        for (int left = 23; left >= 2; left--) {
            x.is("undo()", left);
        }
        x.is("undo()", 1).each("step(#, 0)", 0, -1, 1).is("grade(0, 4)", 50);
        x.is("undo()", 0).is("grade(0, 4)", 1).each("step(#, 0)", 0, -1, 1).is("undo()", STATE);
        actsOfAllSorts();
        // what is undone makes room
        for (int i = 1; i <= 24; i++) {
            x.make("rule(2, " + (i % 2) + ")");
        }
        x.is("count(5)", 24).is("undo()", 23).make("rule(2, 7)").is("count(5)", 24).is("undo()", 23).is("stand(4)", 1);
    }

    /** 30 ACTS, by turns of four sorts: the six oldest are forgotten, each other one is undone as what it was. */
    private void actsOfAllSorts() {
        Run x = with("w8,1,0;g0,0;t9,9,99,1,1;t9,9,99,1,2;");
        for (int i = 0; i < 30; i++) {
            int v = 1 + i / 4;
            String[] sorts = {"rule(0, " + v + ")", "price(1, " + 10 * v + ")", "lay(7, " + v % 2 + ")", "rule(2, " + v + ")"};
            x.make(sorts[i % 4]);
        }
        for (int left = 23; left >= 0; left--) {
            // as many ACTS are not undone, the forgotten ones with them
            int acts = left + 6;
            x.is("undo()", left).is("stand(2)", (acts + 3) / 4).is("grade(1, 4)", 10 * ((acts + 2) / 4));
            x.is("step(7, 0)", (acts + 1) / 4 % 2).is("stand(4)", acts / 4);
        }
        x.is("undo()", STATE);
    }

    private void actsUndone() {
        says("a GRADE is laid at a STEP, or it is made bare; BEST is laid; MUD, TOP, FALL, LEAST is another; "
            + "PRICE of a GRADE is another.");
        Run x = with("w8,1,1;g2,3;t9,99,99,1,1;t9,99,99,1,2;t9,99,99,1,3;t9,99,99,1,4;t9,99,99,1,5;");
        x.lay(4, 3, 2, 1, 0, 4, 4).is("count(5)", 7);
        x.is("lay(0, -1)", 4).is("undo()", 7).is("step(0, 0)", 4);
        x.is("lay(7, 4)", -1).is("undo()", 7).is("step(7, 0)", -1);
        x.is("lay(1, 4)", 3).is("undo()", 7).is("step(1, 0)", 3);
        x.make("lay(7, 2)").is("lay(0, 0)", 4).is("undo()", 8).is("step(7, 0)", 2).is("undo()", 7);
        x.is("layBest()", 8).is("count(5)", 8).each("step(#, 0)", 0, 0, 0, 0, 0, 0, 0, 0, 0);
        x.is("undo()", 7).each("step(#, 0)", 0, 4, 3, 2, 1, 0, 4, 4, -1);
        x.is("rule(0, 20)", 1).is("rule(1, 99)", 2).is("rule(2, 20)", 3).is("rule(3, 3)", 1).is("price(4, 99)", 5);
        x.each("stand(#)", 1, 3, 20, 99, 20).is("count(5)", 12);
        x.is("undo()", 11).is("grade(4, 4)", 5).is("stand(1)", 3);
        x.is("undo()", 10).is("stand(1)", 1).is("stand(4)", 20);
        x.is("undo()", 9).is("stand(4)", 3).is("stand(3)", 99);
        x.is("undo()", 8).is("stand(3)", 2).is("stand(2)", 20);
        x.is("undo()", 7).is("stand(2)", 1).each("step(#, 0)", 0, 4, 3, 2, 1, 0, 4, 4, -1);
        for (int step = 6; step >= 0; step--) {
            x.is("undo()", step).is("step(" + step + ", 0)", -1);
        }
        x.is("undo()", STATE).each("grade(#, 4)", 0, 1, 2, 3, 4, 5);
    }
}
