/** Boundary cases of section 3, FORETOLD, and of the KINDS that are told there. */
final class ForetoldEdges extends Edges {
    private static final String EIGHT =
        "w8,1,4;g40,3;p45,70,80,9,9;h45,40,72,8,19;b30,60,99,5,29;t20,40,30,1,50;l90,90,90,7,90;";

    ForetoldEdges(Due due, Sentences sentences) {
        super(due, sentences);
    }

    @Override
    void all() {
        nothingChanges();
        without();
        mostMud();
        mostTop();
        need();
        sets();
        setsInAll();
        share();
        shareOver();
        turns();
        turnsEnd();
        turnsWanted();
        rowTells();
        kindsAndLeasts();
        flaws();
        flawsAreFractions();
        years();
        yearsDraw();
        yearsLay();
        yearsMud();
        yearsTell();
        kinds();
    }

    private void nothingChanges() {
        says("======== 3 FORETOLD (nothing changes).");
        changeNothing("best(0)", "best(1)", "best(12)", "without(0)", "without(1)", "without(2)", "most(0)", "most(1)",
            "need(0)", "need(1)", "need(2)", "sets(14, 0)", "sets(14, 1)", "sets(14, 2)", "share(0, 999)", "share(2, 1)");
        changeNothing("byTurns(0)", "byTurns(1)", "byTurns(3)", "who(0, 0, 0, 0)", "who(2, 0, 0, 1)", "who(1, 1, 1, 1)",
            "flaws(0, 0)", "flaws(3, 1)", "drawn(0, 1, 0)", "drawn(60, 7, 0)", "drawn(60, 999999, 1)");
    }

    private void without() {
        says("WITHOUT a GRADE: COST of the BEST in which that is not; NONE.");
        with("w2,1,0;g0,0;t9,9,99,1,1;").is("without(0)", NONE);
        Run x = with("w4,2,0;g20,1;t19,9,99,1,1;t20,9,99,1,2;t20,9,99,1,9;");
        x.is("best(0)", 6).each("without(#)", -1, BAD, 8, 20, 6, BAD);
        x.lay(2, 2, 2, 2).each("without(#)", 0, 8, 20, 6);
        with("w2,1,0;g9,0;t8,9,99,1,1;t9,9,99,1,1;").each("without(#)", 0, 2, NONE);
        // no string at all, with that GRADE or without it
        with("w2,3,0;g0,0;t9,9,99,1,1;t9,9,99,1,1;").each("without(#)", 0, NONE, NONE);
    }

    private void mostOf(String text, String call, long due, int... string) {
        is(call + " of " + text, with(text).lay(string).ask(call), due);
    }

    private void mostMud() {
        says("MOST: the most MUD (0 to 40),");
        mostOf("w2,1,0;g0,0;t9,1,99,1,1;", "most(0)", 0, 0, 0);
        mostOf("w2,1,0;g0,0;t9,2,99,1,1;", "most(0)", 1, 0, 0);
        mostOf("w2,1,20;g0,0;t9,79,99,1,1;", "most(0)", 39, 0, 0);
        mostOf("w2,1,20;g0,0;t9,80,99,1,1;", "most(0)", 40, 0, 0);
        mostOf("w2,1,0;g0,0;t9,82,99,1,1;", "most(0)", 40, 0, 0);
        mostOf("w8,1,0;g0,0;t9,99,99,1,1;", "most(0)", 12, 0, 0, 0, 0, 0, 0, 0, 0);
        // all that pulls is all it bears: it bears nothing of CRUSH
        mostOf("w2,1,20;g0,0;p9,99,2,1,1;", "most(0)", 0, 0, 0);
    }

    private void mostTop() {
        says("TOP (0 to 99) by which all STEPS HOLD as they are laid; NONE.");
        mostOf("w2,1,0;g0,0;t1,9,99,1,1;", "most(1)", 1, 0, 0);
        mostOf("w2,1,0;g99,0;t98,9,99,1,1;", "most(1)", 98, 0, 0);
        mostOf("w2,1,0;g0,0;t99,9,99,1,1;", "most(1)", 99, 0, 0);
        mostOf("w2,1,0;g0,0;l88,9,99,1,1;", "most(1)", 98, 0, 0);
        mostOf("w2,1,0;g0,0;l89,9,99,1,1;", "most(1)", 99, 0, 0);
        mostOf("w2,1,0;g0,0;l99,9,99,1,1;", "most(1)", 99, 0, 0);
        mostOf("w2,1,0;g0,20;t30,9,99,1,1;t5,9,99,1,1;", "most(1)", 25, 0, 1);
        mostOf("w2,1,0;g0,20;t30,9,99,1,1;t11,9,99,1,1;", "most(1)", 30, 0, 1);
        for (String call : new String[] {"most(0)", "most(1)"}) {
            mostOf("w2,1,0;g0,0;t9,9,99,1,1;", call, NONE, -1, -1);
            mostOf("w2,1,0;g0,0;t9,9,99,1,1;", call, NONE, 0, -1);
            mostOf("w2,1,0;g0,0;t9,9,1,1,1;", call, NONE, 0, 0);
        }
        // TOP is too great for any MUD, MUD for any TOP
        mostOf("w2,1,0;g10,0;t9,9,99,1,1;", "most(0)", NONE, 0, 0);
        mostOf("w2,1,5;g0,0;t9,9,99,1,1;", "most(1)", NONE, 0, 0);
        // sections may be too short: no string need be SOUND
        mostOf("w2,3,0;g0,0;t9,8,99,1,1;t9,8,99,1,1;", "most(0)", 4, 0, 1);
    }

    private void need() {
        says("NEED for a STEP: GRADES (bits) by which that STEP would HOLD, all else as it is laid.");
        with("w2,1,0;g10,0;t9,9,99,1,1;").each("need(#)", -1, BAD, 0, 0, BAD);
        with("w2,1,0;g9,0;p9,9,9,1,1;h9,9,9,1,1;b9,9,9,1,1;t9,9,9,1,1;l9,9,9,1,1;").each("need(#)", 0, 31, 31);
        Run x = with("w2,1,0;g0,0;t9,9,10,1,1;t9,9,9,9,1;");
        x.is("need(0)", 3).make("lay(1, 1)").is("need(0)", 1).is("need(1)", 3);
        // what hangs above does not count, nor what is laid there now
        x.make("lay(0, 1)").is("need(0)", 1).is("need(1)", 3).make("lay(1, -1)").is("need(1)", 3).is("need(0)", 3);
    }

    private void sets() {
        says("SETS of v (0 to 792): sets of STEPS that are not bare of PRICE v together: how many;");
        Run x = with("w8,1,0;g0,0;t9,9,99,1,99;t9,9,99,1,1;");
        x.is("sets(-1, 0)", BAD).is("sets(0, 0)", 1).is("sets(99, 0)", 0).is("sets(792, 0)", 0).is("sets(793, 0)", BAD);
        x.lay(0, 0, 0, 0, 0, 0, 0, 0).is("sets(0, 0)", 1).is("sets(98, 0)", 0).is("sets(99, 0)", 8);
        x.is("sets(396, 0)", 70).is("sets(693, 0)", 8).is("sets(791, 0)", 0).is("sets(792, 0)", 1);
        x.make("lay(0, -1)").is("sets(792, 0)", 0).is("sets(693, 0)", 1).is("sets(99, 0)", 7);
        x.make("lay(0, 1)").is("sets(1, 0)", 1).is("sets(100, 0)", 7).is("sets(694, 0)", 1);
    }

    private void setsInAll() {
        says("STEPS (bits) that are in all of these (none: 0); in any.");
        Run x = with("w8,1,0;g0,0;t9,9,99,1,5;t9,9,99,1,10;");
        x.is("sets(0, 1)", 0).is("sets(0, 2)", 0).is("sets(5, 1)", 0).is("sets(5, 2)", 0);
        x.lay(0, -1, 0, -1, -1, -1, -1, 1);
        x.is("sets(0, 1)", 0).is("sets(0, 2)", 0).is("sets(7, 1)", 0).is("sets(7, 2)", 0);
        x.is("sets(5, 1)", 0).is("sets(5, 2)", 5).is("sets(10, 1)", 0).is("sets(10, 2)", 133);
        x.is("sets(15, 1)", 128).is("sets(15, 2)", 133).is("sets(20, 1)", 133).is("sets(20, 2)", 133);
        x.is("sets(792, 1)", 0).is("sets(792, 2)", 0);
        with("w8,1,0;g0,0;t9,9,99,1,99;").lay(0, 0, 0, 0, 0, 0, 0, 0).is("sets(792, 1)", 255).is("sets(792, 2)", 255);
    }

    private void share() {
        says("SHARE of n (0 to 999): each STEP gets as many as n times its HEFT by all HEFT (cut),");
        Run x = with("w2,1,0;g0,0;t9,9,99,1,1;t9,9,99,9,1;").lay(0, 1);
        x.is("share(0, -1)", BAD).is("share(0, 0)", 0).is("share(1, 0)", 0).is("share(0, 1000)", BAD);
        x.is("share(0, 10)", 1).is("share(1, 10)", 9).is("share(0, 990)", 99).is("share(1, 990)", 891);
        x.is("share(0, 999)", 100).is("share(1, 999)", 899).is("share(0, 9)", 1).is("share(1, 9)", 8);
        with("w8,1,0;g0,0;t9,9,99,9,1;").make("lay(7, 0)").is("share(7, 999)", 999).is("share(0, 999)", 0);
        with("w8,1,0;g0,0;t9,9,99,1,1;").make("lay(0, 0)").is("share(0, 999)", 999).is("share(7, 999)", 0);
    }

    private void shareOver() {
        says("what is over 1 each to the first ones that are not bare: how many a STEP gets (0, if all are bare).");
        Run x = with("w8,1,0;g0,0;t9,9,99,9,1;");
        x.each("share(#, 999)", 0, 0, 0, 0, 0, 0, 0, 0, 0);
        x.lay(0, 0, 0, 0, 0, 0, 0, 0).each("share(#, 999)", 0, 125, 125, 125, 125, 125, 125, 125, 124);
        x.each("share(#, 1)", 0, 1, 0, 0, 0, 0, 0, 0, 0).each("share(#, 8)", 0, 1, 1, 1, 1, 1, 1, 1, 1);
        x.lay(-1, 0, -1, 0, -1, 0, -1, -1).each("share(#, 2)", 0, 0, 1, 0, 1, 0, 0, 0, 0);
        x.each("share(#, 1)", 0, 0, 1, 0, 0, 0, 0, 0, 0).each("share(#, 5)", 0, 0, 2, 0, 2, 0, 1, 0, 0);
    }

    private void turns() {
        says("TURNS of n STEPS (0 to 4, no more than there are), the lowest ones, all being bare:");
        with("w8,1,0;g0,0;t9,9,99,1,7;").each("byTurns(#)", -1, BAD, 0, 7, 14, 21, 28, BAD);
        with("w4,1,0;g0,0;t9,9,99,1,7;").each("byTurns(#)", 0, 0, 7, 14, 21, 28, BAD);
        with("w3,1,0;g0,0;t9,9,99,1,7;").each("byTurns(#)", 0, 0, 7, 14, 21, BAD);
        with("w2,1,0;g0,0;t9,9,99,1,7;").each("byTurns(#)", 0, 0, 7, 14, BAD);
        // the lowest STEPS: the least BURST, and what is laid there does not count
        Run x = with("w3,1,0;g99,20;t59,9,9,9,7;");
        x.each("byTurns(#)", 0, 0, 7, 7, 7).lay(0, 0, 0).each("byTurns(#)", 0, 0, 7, 7, 7);
    }

    private void turnsEnd() {
        says("from the lowest one up the buyer, then the seller, and so on, lays any GRADE by which the STEP HOLDS; "
            + "if there is none such, it ends there;");
        with("w3,1,9;g0,0;t9,26,99,1,7;").each("byTurns(#)", 0, 0, 0, 0, 0);
        with("w3,1,9;g0,0;t9,27,99,1,7;").each("byTurns(#)", 0, 0, 7, 14, 21);
        // PULL lets two HOLD, not three
        with("w4,1,0;g0,0;t9,9,2,1,7;").each("byTurns(#)", 0, 0, 7, 14, 14, 14);
        with("w4,1,0;g0,0;b9,9,3,1,7;").each("byTurns(#)", 0, 0, 7, 14, 14, 14);
        // the buyer lays the heavy one, upon which nothing HOLDS
        with("w2,1,0;g0,0;t9,9,9,1,2;t9,9,9,9,3;").each("byTurns(#)", 0, 0, 2, 3);
        // the seller may not end it, while he can lay
        with("w2,1,0;g0,0;t9,9,99,1,5;").is("byTurns(2)", 10);
        // short SECTIONS are laid, too
        with("w4,3,0;g0,0;t9,9,99,1,5;t9,9,99,1,6;").each("byTurns(#)", 0, 0, 5, 11, 16, 22);
    }

    private void turnsWanted() {
        says("each STEP that is laid costs its PRICE; the buyer wants the COST little, the seller great: "
            + "what comes of it.");
        with("w4,1,0;g0,0;t9,9,99,1,99;t9,9,99,9,1;").each("byTurns(#)", 0, 0, 1, 100, 101, 200);
        with("w3,1,0;g0,0;t9,9,10,1,1;t9,9,9,8,3;").each("byTurns(#)", 0, 0, 1, 4, 5);
        // the seller lays 3, not 4, upon which nothing HOLDS: 2 and 3 and 2 is more than 2 and 4
        with("w3,1,1;g0,0;t9,9,9,1,2;t9,2,9,8,4;t9,9,9,2,3;").each("byTurns(#)", 0, 0, 2, 6, 7);
        // the buyer lays 5, not 4, so that it ends sooner: 5 and 4 is less than 4 and 4 and 4
        with("w3,1,0;g0,0;t9,9,9,1,4;t9,9,9,8,5;").each("byTurns(#)", 0, 0, 4, 9, 9);
    }

    private void rowTells() {
        says("A row tells the GRADES of all STEPS from the top on.");
        // BEST is 1, 0
        Run x = with("w2,1,0;g0,0;t9,9,99,1,10;t9,9,10,9,3;").make("row(0, 0, 5)").put(0, 0, 0, 1, 0, 0, 1);
        x.each("who(0, 1, 0, #)", -1, PLACE, 0, 2, 4, 0, PLACE);
        // what is no GRADE is not BEST
        x.put(0, 0, 1, -1).is("who(0, 1, 0, 0)", 0).put(0, 0, 1, 2).is("who(0, 1, 0, 0)", 0);
        x.put(0, 0, 1, 127).is("who(0, 1, 0, 0)", 0).put(0, 0, 1, 256).is("who(0, 1, 0, 0)", 2);
        for (int lane = 1; lane < 3; lane++) {
            x.make("row(1, " + lane + ", 2)").put(1, 0, 1, 0).is("who(0, 1, 1, 0)", 2).is("who(0, 1, 1, 1)", PLACE);
        }
        x.make("row(2, 2, 1)").is("who(0, 1, 2, 0)", PLACE).make("row(2, 2, 0)").is("who(0, 1, 2, 0)", PLACE);
    }

    private void kindsAndLeasts() {
        says("KINDS (bits 1 to 5) of a GRADE by which that is BEST; LEASTS (1 to 3, bits), likewise.");
        Run x = with("w3,1,0;g0,0;t9,9,99,1,1;").make("row(0, 0, 3)");
        x.is("who(0, 0, 0, 0)", 62).is("who(0, 1, 0, 0)", 14);
        with("w2,1,0;g0,0;t9,9,99,1,1;").make("row(0, 0, 2)").is("who(0, 1, 0, 0)", 6);
        // brittle it bears but 5 of PULL
        Run y = with("w2,1,0;g0,0;t9,9,99,1,10;t9,9,10,9,3;").make("row(0, 0, 5)").put(0, 0, 0, 1, 0, 0, 1);
        y.is("who(1, 0, 0, 1)", 62 - 8).is("who(1, 0, 0, 2)", 8).is("who(0, 0, 0, 1)", 62).is("who(0, 0, 0, 0)", 0);
        // lined alone it bears BURST; thick or lined, CRUSH; not plain, half as well hard
        with("w2,1,0;g19,0;p9,9,99,1,1;").make("row(0, 0, 2)").is("who(0, 0, 0, 0)", 32);
        with("w2,1,20;g0,0;p9,40,2,1,1;").make("row(0, 0, 2)").is("who(0, 0, 0, 0)", 16 + 32);
        with("w2,1,10;g0,0;p9,25,2,1,1;").make("row(0, 0, 2)").is("who(0, 0, 0, 0)", 4 + 16 + 32);
        // each KIND, each LEAST by itself: all else is as it stands now, whatever was supposed before
        Run v = with("w2,1,0;g0,0;p9,9,99,1,10;b9,9,10,9,3;").make("row(0, 0, 2)").is("who(1, 0, 0, 0)", 8);
        v.is("who(0, 0, 0, 0)", 62).is("who(0, 1, 0, 0)", 6).make("price(1, 99)").is("who(1, 0, 0, 0)", 62);
        v.make("rule(1, 11)").is("who(0, 0, 0, 0)", 32).make("rule(3, 3)").is("who(0, 0, 0, 0)", 0);
        v.make("drawn(60, 7, 0)", "most(0)").is("who(0, 1, 0, 0)", 0).make("undo()", "undo()").is("who(0, 1, 0, 0)", 6);
        // there is none by any
        Run z = with("w2,3,0;g0,0;t9,9,1,1,1;").make("row(0, 0, 2)");
        z.is("who(0, 0, 0, 0)", 0).is("who(0, 1, 0, 0)", 0);
    }

    private void flawsAre(Run x, int p, long above, long below) {
        x.is("flaws(" + p + ", 0)", above).is("flaws(" + p + ", 1)", below);
    }

    private void flaws() {
        says("FLAWS by p of 10 (0 to 10): each STEP that is not bare is flawed in p of 10 cases, apart "
            + "(it bears but half of BURST then, cut):");
        Run x = with("w2,1,0;g5,0;t9,9,99,1,1;").lay(0, 0);
        x.is("flaws(-1, 0)", BAD).is("flaws(11, 0)", BAD).is("flaws(-1, 1)", BAD).is("flaws(11, 1)", BAD);
        // half of 9 is 4, which is less than 5 and no less than 4
        flawsAre(x, 0, 1, 1);
        flawsAre(x, 1, 81, 100);
        flawsAre(x, 9, 1, 100);
        flawsAre(x, 10, 0, 1);
        x.make("rule(1, 4)");
        flawsAre(x, 10, 1, 1);
        // of a lined one 10 more are halved, too
        Run y = with("w2,1,0;g9,0;l9,9,99,1,1;").lay(0, 0);
        flawsAre(y, 10, 1, 1);
        y.make("rule(1, 10)");
        flawsAre(y, 10, 0, 1);
        flawsAre(y, 5, 1, 4);
        // one STEP alone that a flaw matters to
        Run z = with("w2,1,0;g9,5;t9,9,99,1,1;").lay(0, 0);
        flawsAre(z, 3, 7, 10);
        // CRUSH and PULL are not halved
        flawsAre(with("w2,1,9;g0,0;t9,18,2,1,1;").lay(0, 0), 10, 1, 1);
    }

    private void flawsAreFractions() {
        says("how likely all STEPS HOLD: a fraction.");
        Run x = with("w8,1,0;g9,0;t9,9,99,1,1;").lay(0, 0, 0, 0, 0, 0, 0, 0);
        flawsAre(x, 1, 43046721, 100000000);
        flawsAre(x, 2, 65536, 390625);
        flawsAre(x, 5, 1, 256);
        flawsAre(x, 9, 1, 100000000);
        flawsAre(x, 10, 0, 1);
        flawsAre(x, 0, 1, 1);
        // one that is bare, or does not HOLD without a flaw: never
        x.make("lay(7, -1)");
        flawsAre(x, 0, 0, 1);
        flawsAre(x, 4, 0, 1);
        x.make("lay(7, 0)", "rule(1, 10)");
        flawsAre(x, 0, 0, 1);
        flawsAre(x, 4, 0, 1);
    }

    private void years() {
        says("YEARS of n times (0 to 60) by a SEED (X at first):");
        Run x = with(EIGHT);
        x.is("drawn(-1, 1, 0)", BAD).is("drawn(0, 1, 0)", 0).is("drawn(1, 1, 0)", 1).is("drawn(61, 1, 0)", BAD);
        x.is("drawn(59, 1, 0)", 112).is("drawn(60, 1, 0)", 119).is("drawn(60, 1, 1)", 172);
        x.is("drawn(60, 0, 0)", BAD).is("drawn(60, 999999, 0)", 163).is("drawn(60, 1000000, 0)", BAD);
        x.is("drawn(0, 999999, 1)", 0).make("lay(0, 4)").is("drawn(0, 1, 1)", 90).is("drawn(0, 1, 0)", 0);
    }

    private void yearsDraw() {
        says("ahead of each X becomes the rest of (X times 16807) by 2147483647;");
        // X is 16807, 282475249, 1622650073: the third is beyond what an int holds ahead of the rest
        Run x = with(EIGHT);
        x.is("drawn(1, 1, 1)", 9).is("drawn(2, 1, 1)", 59).is("drawn(3, 1, 1)", 99).is("drawn(3, 1, 0)", 4);
        // 127773 makes 2147480811, near the greatest there is; 999999 makes 1774597664, a rest at once
        x.is("drawn(1, 127773, 1)", 9).is("drawn(2, 127773, 1)", 29).is("drawn(60, 127773, 0)", 136);
        x.is("drawn(1, 999999, 1)", 90).is("drawn(2, 999999, 1)", 29).is("drawn(60, 999999, 1)", 203);
    }

    private void yearsLay() {
        says("at the STEP that is the rest of X by how many there are the GRADE that X by 16 (cut) leaves "
            + "by how many there are is laid;");
        // X is 16807: STEP 1 of 2, 7 of 8; X by 16 is 1050: GRADE 0 of 2 and of 5, 0 of 1
        with("w2,1,0;g0,0;t9,9,99,1,3;t9,9,99,1,5;").lay(1, 1).is("drawn(1, 1, 1)", 8);
        with("w2,1,0;g0,0;t9,9,99,1,3;").is("drawn(1, 1, 1)", 3).is("drawn(60, 1, 1)", 6);
        with(EIGHT).lay(4, 4, 4, 4, 4, 4, 4, 4).is("drawn(1, 1, 1)", 639);
        // X is 50421: STEP 5 of 8; X by 16 is 3151: GRADE 1 of 5. X is 1613472: STEP 0 of 8; 100842: GRADE 2 of 5
        with(EIGHT).is("drawn(1, 3, 1)", 19).is("drawn(1, 96, 1)", 29);
        // at the top STEP, to which CRUSH is least: by MUD 20 the lowest would not HOLD
        with("w8,1,20;g0,0;t9,20,99,1,3;").is("drawn(1, 96, 0)", 1).is("drawn(1, 1, 0)", 0);
    }

    private void yearsMud() {
        says("MUD is what X by 256 leaves by 21, if X by 5 leaves 0:");
        // X is 1596665: MUD 20, GRADE 1 at the lowest STEP
        with("w2,1,0;g0,0;t9,9,99,1,1;t9,40,99,1,1;").is("drawn(1, 95, 0)", 1);
        with("w2,1,0;g0,0;t9,9,99,1,1;t9,39,99,1,1;").is("drawn(1, 95, 0)", 0);
        // X is 8655605: MUD 0, GRADE 1 at the lowest STEP
        with("w2,1,20;g0,0;t9,1,99,1,1;t9,1,99,1,1;").is("drawn(1, 515, 0)", 1);
        // X is 16807, which leaves 2: MUD stays
        with("w2,1,20;g0,0;t9,39,99,1,1;").is("drawn(1, 1, 0)", 0);
        with("w2,1,20;g0,0;t9,40,99,1,1;").is("drawn(1, 1, 0)", 1);
        // X is 84035: MUD 13, at the lowest STEP
        with("w2,1,0;g0,0;t9,26,99,1,1;").is("drawn(1, 5, 0)", 1);
        with("w2,1,0;g0,0;t9,25,99,1,1;").is("drawn(1, 5, 0)", 0);
    }

    private void yearsTell() {
        says("how many STEPS HOLD behind each of these, together; COST at last.");
        // X is odd, odd, odd, even, even; GRADES 0, 1, 1, 0, 0; MUD is 18 behind the fifth
        Run x = with("w2,1,0;g0,0;t9,20,99,1,10;t9,99,99,2,3;");
        x.each("drawn(#, 1, 0)", 0, 0, 1, 2, 3, 5, 7).each("drawn(#, 1, 1)", 0, 0, 10, 3, 3, 13, 13);
        // those that HOLD ahead of all count behind each
        x.make("lay(0, 1)").each("drawn(#, 1, 0)", 0, 0, 2, 4, 6, 8, 10).each("drawn(#, 1, 1)", 0, 3, 13, 6, 6, 13, 13);
    }

    private void kinds() {
        says("KINDS of GRADES: 0 GRADE; 1 PLAIN, a GRADE; 2 HARD, a PLAIN one; 3 BRITTLE, a PLAIN one; "
            + "4 THICK, a GRADE; 5 LINED, a THICK one. By this it is asked.");
        Run x = with("w2,1,0;g0,0;p9,9,9,1,1;h9,9,9,1,1;b9,9,9,1,1;t9,9,9,1,1;l9,9,9,1,1;");
        x.each("as(0, #)", -1, BAD, 0, 0, KIND, KIND, KIND, KIND, BAD);
        x.each("as(1, #)", -1, BAD, 1, 1, 1, KIND, KIND, KIND, BAD);
        x.each("as(2, #)", -1, BAD, 2, 2, KIND, 2, KIND, KIND, BAD);
        x.each("as(3, #)", -1, BAD, 3, KIND, KIND, KIND, 3, KIND, BAD);
        x.each("as(4, #)", -1, BAD, 4, KIND, KIND, KIND, 4, 4, BAD);
    }
}
