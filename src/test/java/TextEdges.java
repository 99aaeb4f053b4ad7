/** Boundary cases of section 1, ROWS and TEXTS. */
final class TextEdges extends Edges {
    private static final String LAW = "w2,1,0;", GAS = "g0,0;", GRADE = "t9,9,9,1,1;";
    private static final String FIVE = LAW + GAS + "p1,1,1,1,1;h1,1,1,1,1;b1,1,1,1,1;t1,1,1,1,1;l1,1,1,1,1;";

    TextEdges(Due due, Sentences sentences) {
        super(due, sentences);
    }

    @Override
    void all() {
        rows();
        tape();
        tokens();
        parts();
        law();
        gas();
        grades();
        inPlaceOfTheOneBefore();
        firstToken();
        leastFault();
        cannotStand();
        numberNotAsTold();
        gradeMore();
    }

    private void rows() {
        says("======== 1 ROWS 0 .. 7 are missing (at first), or have a LANE (0 bytes, 1 shorts, 2 ints) "
            + "and 0 to 40 ITEMS, 0 at first.");
        fresh().each("drop(#)", -1, BAD, NULL, NULL, NULL, NULL, NULL, NULL, NULL, NULL, BAD);
        fresh().each("row(#, 0, 1)", -1, BAD, 1, 1, 1, 1, 1, 1, 1, 1, BAD).is("count(0)", 8);
        fresh().each("row(0, #, 1)", -1, BAD, 1, 1, 1, BAD);
        fresh().make("row(0, 0, 1)", "row(1, 1, 1)", "row(2, 2, 1)")
            .each("set(#, 0, 128)", 0, -128, 128, 128).each("set(#, 0, 32768)", 0, 0, -32768, 32768);
        fresh().is("row(0, 0, 0)", 0).is("set(0, 0, 1)", PLACE).is("row(0, 0, 40)", 40).is("row(0, 0, 41)", BAD)
            .is("set(0, 39, 1)", 1).is("set(0, 40, 1)", PLACE);
        for (int lane = 0; lane < 3; lane++) {
            Run x = with("w8,1,0;" + GAS + GRADE).make("row(5, " + lane + ", 40)");
            for (int i = 0; i <= 32; i++) {
                x.is("who(0, 1, 5, " + i + ")", 14);
            }
        }
    }

    private void tape() {
        says("TEXTS: THE TAPE has at most 130 bytes, that come one by one;");
        Run x = fresh();
        for (int i = 1; i <= 130; i++) {
            x.is("feed(119)", i);
        }
        x.is("feed(119)", FULL).is("count(6)", 130).is("well()", -1000101).is("count(6)", 0).is("feed(119)", 1);
    }

    private void reads(String text, long answer, int fault) {
        Run x = fresh().feed(text);
        is("well() of " + text, x.ask("well()"), answer);
        is("fault() of " + text, x.ask("fault()"), fault);
    }

    private void fails(String text, int place, int fault) {
        reads(text, -1000100 - place, fault);
    }

    private void tokens() {
        says("TOKENS: letters a to z (each by itself), NUMBERS (figures, 2 at most), SIGNS , and ; nothing else.");
        for (char b = 0; b < 256; b++) {
            boolean figure = b >= '0' && b <= '9';
            byteOrFault(b == 'w', b + "2,1,0;" + GAS + GRADE, 0, 1);
            byteOrFault(b >= '2' && b <= '8', "w" + b + ",1,0;" + GAS + GRADE, 1, figure ? 2 : 1);
            byteOrFault(b == ',', "w2" + b + "1,0;" + GAS + GRADE, figure ? 1 : 2, 1);
            byteOrFault(b == ';', "w2,1,0" + b + GAS + GRADE, figure ? 7 : 6, 1);
            byteOrFault("phbtl".indexOf(b) >= 0, LAW + GAS + b + "9,9,9,1,1;", 12, 1);
        }
        fails("ww", 1, 1);
        fails("w2,1,0;gg", 8, 1);
        fails(LAW + GAS + "pp", 13, 1);
        fails("w2,,", 3, 1);
        fails("w2,1,0;;", 7, 1);
        reads("w02,01,00;g00,00;t09,09,09,01,01;", 1, 0);
        reads("w2,1,20;g99,20;t99,99,99,9,99;", 1, 0);
        fails("w002", 1, 1);
        fails("w2,001", 3, 1);
    }

    private void byteOrFault(boolean stands, String text, int place, int fault) {
        reads(text, stands ? 1 : -1000100 - place, stands ? 0 : fault);
    }

    private void parts() {
        says("well: law gas grade { grade }.");
        fails("", 0, 1);
        fails(LAW, 7, 1);
        fails(LAW + GAS, 12, 1);
        reads(LAW + GAS + GRADE, 1, 0);
        reads(LAW + GAS + GRADE + GRADE, 2, 0);
        fails(GAS + LAW + GRADE, 0, 1);
        fails(LAW + GRADE + GAS, 7, 1);
        fails(LAW + LAW, 7, 1);
        fails(LAW + GAS + GAS, 12, 1);
        fails(LAW + GAS + GRADE + GAS, 23, 1);
        fails(LAW + GAS + GRADE + LAW, 23, 1);
        fails(LAW + GAS + GRADE + ";", 23, 1);
    }

    /** All NUMBERS of one or two figures at a place, one of three, and none. */
    private void number(String before, String behind, int low, int high, String told) {
        for (int v = 0; v < 100; v++) {
            Run x = fresh().feed(before + v + behind);
            boolean fits = v >= low && v <= high;
            is("well() of " + before + v + behind, x.ask("well()"), fits ? 1 : -1000100 - before.length());
            is("fault() of " + before + v + behind, x.ask("fault()"), fits ? 0 : 2);
            if (fits) {
                x.is(told, v);
            }
        }
        fails(before + "100" + behind, before.length(), 1);
        fails(before + behind, before.length(), 1);
    }

    private void law() {
        says("law: w STEPS , LEAST , MUD ; (2 to 8; 1 to 3; 0 to 20).");
        number("w", ",1,0;" + GAS + GRADE, 2, 8, "stand(0)");
        number("w2,", ",0;" + GAS + GRADE, 1, 3, "stand(1)");
        number("w2,1,", ";" + GAS + GRADE, 0, 20, "stand(2)");
        fails("w2;1,0;", 2, 1);
        fails("w2,1;0;", 4, 1);
        fails("w2,1,0,", 6, 1);
    }

    private void gas() {
        says("gas: g TOP , FALL ; (0 to 99; 0 to 20).");
        number(LAW + "g", ",0;" + GRADE, 0, 99, "stand(3)");
        number(LAW + "g0,", ";" + GRADE, 0, 20, "stand(4)");
        fails(LAW + "g0;0;", 9, 1);
        fails(LAW + "g0,0,", 11, 1);
    }

    private void grades() {
        says("grade: SORT BURST , CRUSH , PULL , HEFT , PRICE ; (p a plain one, h a hard one, b a brittle one, "
            + "t a thick one, l a lined one; 1 to 99 three times; 1 to 9; 1 to 99; GRADES 0 .. 4, 5 at most).");
        with(FIVE).each("kind(#)", -1, BAD, 1, 2, 3, 4, 5, BAD);
        number(LAW + GAS + "p", ",9,9,1,1;", 1, 99, "grade(0, 0)");
        number(LAW + GAS + "h9,", ",9,1,1;", 1, 99, "grade(0, 1)");
        number(LAW + GAS + "b9,9,", ",1,1;", 1, 99, "grade(0, 2)");
        number(LAW + GAS + "t9,9,9,", ",1;", 1, 9, "grade(0, 3)");
        number(LAW + GAS + "l9,9,9,1,", ";", 1, 99, "grade(0, 4)");
        for (int commas = 0; commas < 5; commas++) {
            // a comma ahead of each of the NUMBERS behind the first, and the end of all behind the last
            String text = LAW + GAS + "p9" + ",9".repeat(commas);
            fails(text + (commas < 4 ? ";" : ","), text.length(), 1);
        }
        reads(FIVE, 5, 0);
        fails(FIVE + GRADE, FIVE.length(), 3);
    }

    private void inPlaceOfTheOneBefore() {
        says("A WELL that is read stands in place of the one before (none at first): "
            + "all STEPS (0, the top one, 1, ..) are bare; no ACT can be undone.");
        fresh().is("stand(0)", STATE).is("count(1)", 0).is("count(2)", 0);
        Run x = with("w3,2,4;g30,7;p11,12,13,4,15;l21,22,23,4,25;").lay(0, 1, 1).make("rule(0, 9)", "price(0, 3)");
        x.is("count(5)", 5).feed("w8,3,1;g40,5;t31,32,33,4,35;").is("well()", 1);
        x.each("stand(#)", 0, 8, 3, 1, 40, 5, 0, 0, 0, 0);
        x.each("step(#, 0)", -1, BAD, -1, -1, -1, -1, -1, -1, -1, -1, BAD);
        x.each("step(#, 1)", 0, 40, 35, 30, 25, 20, 15, 10, 5);
        x.each("grade(0, #)", 0, 31, 32, 33, 4, 35).is("grade(1, 0)", BAD).is("kind(0)", 4);
        x.is("count(5)", 0).is("undo()", STATE);
        x.lay(0, 0, 0, 0, 0, 0, 0, 0).feed("w2,1,0;g0,0;b9,9,9,1,1;h9,9,9,1,1;").is("well()", 2);
        x.is("count(3)", 0).is("count(5)", 0).is("undo()", STATE).each("step(#, 0)", -1, BAD, -1, -1, BAD);
    }

    private void firstToken() {
        says("FAULTS, the first TOKEN that has one (its first byte),");
        fails("w9,9,99;", 1, 2);
        fails("w12,1,0;", 1, 2);
        fails("w2,4,x;", 3, 2);
        fails("w2,1,21;x", 5, 2);
        fails("x9", 0, 1);
        fails(LAW + "g0,99;p0", 10, 2);
        fails(LAW + GAS + "p9,9,9,10,100;", 19, 2);
        fails(FIVE + "p0,100", FIVE.length(), 3);
        fails(LAW + "x" + GAS + GRADE + "?", 7, 1);
    }

    private void leastFault() {
        says("of one TOKEN the least:");
        // it cannot stand there, and is not as told at that
        fails("99", 0, 1);
        fails("w2,1,0;g0,0;0", 12, 1);
        fails("w2,1,0;g0,0;t9,9,9,1,1;00", 23, 1);
        // a run of three is none, whatever it would be worth
        fails("w008", 1, 1);
        fails("w999", 1, 1);
        // behind five GRADES: what is no grade's letter is not a grade more
        fails(FIVE + "x", FIVE.length(), 1);
        fails(FIVE + "w", FIVE.length(), 1);
        fails(FIVE + "7", FIVE.length(), 1);
        fails(FIVE + ";", FIVE.length(), 1);
        fails(FIVE + "P", FIVE.length(), 1);
    }

    private void cannotStand() {
        says("1 it cannot stand there, or is none "
            + "(a run of three figures, at its first; the end: how many bytes there are);");
        String most = "w8,3,20;g99,20;" + "p99,99,99,9,99;".repeat(5);
        for (int cut = 0; cut <= most.length(); cut++) {
            int whole = (cut - 15) / 15;
            boolean ends = cut >= 30 && cut % 15 == 0;
            reads(most.substring(0, cut), ends ? whole : -1000100 - cut, ends ? 0 : 1);
            // the end is the end, though a longer text was on the tape before
            Run x = with(most).feed(most.substring(0, cut));
            is("well() of " + most.substring(0, cut) + " behind more", x.ask("well()"), ends ? whole : -1000100 - cut);
        }
        fails("w123", 1, 1);
        fails("w1234567890", 1, 1);
        fails("w2,1,123;", 5, 1);
        fails(LAW + GAS + "p1,1,1,1,123", 21, 1);
        fails(LAW + GAS + GRADE + "123", 23, 1);
        fails("123", 0, 1);
        fails(" w2", 0, 1);
        fails("w,2", 1, 1);
        fails("wx", 1, 1);
        fails("w2w", 2, 1);
        fails("w2,1,0;7", 7, 1);
        fails("w2 ,1", 2, 1);
        fails("w2,1,0;\n", 7, 1);
    }

    private void numberNotAsTold() {
        says("2 a NUMBER that is not as told;");
        fails("w1", 1, 2);
        fails("w9", 1, 2);
        fails("w00", 1, 2);
        fails("w2,0", 3, 2);
        fails("w2,4", 3, 2);
        fails("w2,1,21", 5, 2);
        fails(LAW + "g0,21", 10, 2);
        fails(LAW + GAS + "p0", 13, 2);
        fails(LAW + GAS + "p1,0", 15, 2);
        fails(LAW + GAS + "p1,1,0", 17, 2);
        fails(LAW + GAS + "p1,1,1,0", 19, 2);
        fails(LAW + GAS + "p1,1,1,10", 19, 2);
        fails(LAW + GAS + "p1,1,1,1,0", 21, 2);
    }

    private void gradeMore() {
        says("3 a grade more than there is room for (its letter).");
        for (String letter : new String[] {"p", "h", "b", "t", "l"}) {
            fails(FIVE + letter, FIVE.length(), 3);
            fails(FIVE + letter + "1,1,1,1,1;", FIVE.length(), 3);
        }
        fails(LAW + GAS + GRADE.repeat(6) + GRADE, 12 + 5 * GRADE.length(), 3);
    }
}
