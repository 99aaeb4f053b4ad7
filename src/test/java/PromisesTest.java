/** Each promise of the document by answers worked out by hand. */
public final class PromisesTest {
    private static final int NONE = Due.NONE, BAD = Due.BAD, STATE = Due.STATE, FULL = Due.FULL;
    private static final int LEAST_INT = Integer.MIN_VALUE, MOST_INT = Integer.MAX_VALUE;
    private static final String LAW_AND_GAS = "w6,2,9;g60,8;";
    private static final String FIVE = LAW_AND_GAS
        + "p60,60,40,3,20;h40,80,60,5,31;b90,50,99,4,44;t30,70,30,6,25;l55,40,50,2,60;";
    private static final String TWO = "w2,1,0;g0,0;t9,9,99,1,10;t9,9,99,9,3;";
    private static final Due DUE = new Due();

    public static void main(String[] args) {
        newObject();
        row();
        set();
        copy();
        drop();
        feed();
        well();
        faults();
        undo();
        undoOfStrings();
        lay();
        layBest();
        rule();
        price();
        grade();
        step();
        bears();
        stand();
        best();
        without();
        most();
        need();
        sets();
        share();
        byTurns();
        who();
        flaws();
        drawn();
        images();
        kindAndAs();
        askAndTrace();
        count();
        status();
        DUE.end();
    }

    private static void is(String what, long got, long want) {
        DUE.is(what, got, want);
    }

    private static void newObject() {
        WellPipes x = new WellPipes();
        for (int what = 0; what <= 6; what++) {
            is("1: count of a new object", x.count(what), 0);
        }
        is("1: stand", x.stand(0), STATE);
        is("1: fault", x.fault(), 0);
        is("1: status", x.status(), 0);
        is("1: trace", x.trace(0), NONE);
        is("1: undo", x.undo(), STATE);
    }

    private static void row() {
        WellPipes x = new WellPipes();
        is("2: row", x.row(0, 0, 40), 40);
        is("2: last row", x.row(7, 2, 0), 0);
        is("2: ROW below", x.row(-1, 0, 1), BAD);
        is("2: ROW above", x.row(8, 0, 1), BAD);
        is("2: LANE below", x.row(0, -1, 1), BAD);
        is("2: LANE above", x.row(0, 3, 1), BAD);
        is("2: n above", x.row(0, 0, 41), BAD);
        is("2: BAD ahead of SIZE", x.row(8, 0, -1), BAD);
        is("2: SIZE", x.row(0, 0, LEAST_INT), Due.SIZE);
        is("2: SIZE changed nothing", x.set(0, 39, 1), 1);
        is("2: in place of what is there", x.row(0, 1, 40), 40);
        is("2: ITEMS are 0 again", x.copy(0, 39, 0, 0, 1), 1);
        is("2: how many", x.count(0), 2);
        WellPipes y = Due.with("w2,1,0;g0,0;t9,9,99,1,1;t9,9,99,1,2;");
        y.row(0, 0, 2);
        y.set(0, 0, 1);
        y.row(0, 0, 2);
        is("2: a new ROW tells 0, 0", y.who(1, 1, 0, 0), 6);
    }

    private static void set() {
        WellPipes x = new WellPipes();
        is("3: NULL", x.set(0, 0, 5), Due.NULL);
        is("3: BAD", x.set(8, 0, 5), BAD);
        is("3: BAD", x.set(-1, 0, 5), BAD);
        x.row(0, 0, 3);
        x.row(1, 1, 3);
        x.row(2, 2, 3);
        is("3: byte", x.set(0, 0, 127), 127);
        is("3: byte", x.set(0, 0, 128), -128);
        is("3: byte", x.set(0, 2, 0x1ff), -1);
        is("3: byte", x.set(0, 2, -257), -1);
        is("3: short", x.set(1, 0, 32767), 32767);
        is("3: short", x.set(1, 1, 32768), -32768);
        is("3: short", x.set(1, 2, 0x12345), 0x2345);
        is("3: int", x.set(2, 0, LEAST_INT), LEAST_INT);
        is("3: PLACE", x.set(0, 3, 1), Due.PLACE);
        is("3: PLACE", x.set(0, -1, 1), Due.PLACE);
        is("3: PLACE", x.set(0, MOST_INT, 1), Due.PLACE);
    }

    private static void copy() {
        WellPipes x = Due.with("w4,1,0;g0,0;t9,9,99,1,1;t9,9,99,1,2;");
        x.row(0, 0, 5);
        x.row(1, 0, 4);
        x.row(2, 1, 4);
        is("4: BAD", x.copy(8, 0, 0, 0, 0), BAD);
        is("4: BAD", x.copy(0, 0, -1, 0, 0), BAD);
        is("4: NULL", x.copy(3, 0, 0, 0, 0), Due.NULL);
        is("4: NULL ahead of PLACE", x.copy(0, -1, 3, 0, 0), Due.NULL);
        is("4: STORE ahead of PLACE", x.copy(0, -1, 2, 0, 0), Due.STORE);
        is("4: PLACE i", x.copy(0, -1, 1, 0, 0), Due.PLACE);
        is("4: PLACE j", x.copy(0, 0, 1, -1, 0), Due.PLACE);
        is("4: PLACE n", x.copy(0, 0, 1, 0, -1), Due.PLACE);
        is("4: beyond the end of a", x.copy(0, 2, 1, 0, 4), Due.PLACE);
        is("4: beyond the end of b", x.copy(0, 0, 1, 1, 4), Due.PLACE);
        is("4: far beyond", x.copy(0, MOST_INT, 1, 0, MOST_INT), Due.PLACE);
        is("4: none at the very ends", x.copy(0, 5, 1, 4, 0), 0);
        is("4: none behind the end", x.copy(0, 6, 1, 4, 0), Due.PLACE);
        // 1 0 0 0 0 comes upon itself one place on; as they were ahead it is 1 1 0 0 0, not 1 1 1 1 1
        x.set(0, 0, 1);
        is("4: upon itself", x.copy(0, 0, 0, 1, 4), 4);
        is("4: ITEMS 1 on are 1 0 0 0", x.who(0, 1, 0, 1), 0);
        x.set(0, 1, 0);
        is("4: ITEMS 1 on are 0 0 0 0", x.who(0, 1, 0, 1), 14);
        is("4: to another", x.copy(0, 0, 1, 3, 1), 1);
        is("4: the other is 0 0 0 1", x.who(0, 1, 1, 0), 0);
        is("4: back over it", x.copy(0, 1, 1, 3, 1), 1);
        is("4: the other is 0 0 0 0", x.who(0, 1, 1, 0), 14);
    }

    private static void drop() {
        WellPipes x = new WellPipes();
        is("5: BAD", x.drop(8), BAD);
        is("5: BAD", x.drop(-1), BAD);
        is("5: NULL", x.drop(7), Due.NULL);
        x.row(7, 1, 13);
        is("5: how many it had", x.drop(7), 13);
        is("5: missing", x.set(7, 0, 1), Due.NULL);
        is("5: none", x.count(0), 0);
    }

    private static void feed() {
        WellPipes x = new WellPipes();
        for (int i = 1; i <= 130; i++) {
            is("6: feed", x.feed(i), i);
        }
        is("6: FULL", x.feed(0), FULL);
        is("6: BAD ahead of FULL", x.feed(256), BAD);
        is("6: bytes", x.count(6), 130);
        is("6: fault at the first", x.well(), -1000100);
        is("6: empty then", x.count(6), 0);
        is("6: 255", x.feed(255), 1);
        is("6: 0", x.feed(0), 2);
        is("6: -1", x.feed(-1), BAD);
    }

    private static void well() {
        WellPipes x = new WellPipes();
        is("7: five", Due.tell(x, FIVE), 5);
        is("7: empty then", x.count(6), 0);
        x.lay(0, 0);
        is("7: a FAULT", Due.tell(x, "w2,1,0;g0,0;"), -1000112);
        is("7: all stays", x.step(0, 0), 0);
        is("7: ACTS stay", x.count(5), 1);
        is("7: STEPS stay", x.count(2), 6);
        is("7: another", Due.tell(x, "w08,03,00;g00,00;l01,99,1,09,99;"), 1);
        is("7: bare", x.count(3), 0);
        is("7: no ACT", x.count(5), 0);
        is("7: STEPS", x.stand(0), 8);
        is("7: LEAST", x.stand(1), 3);
        is("7: CRUSH", x.grade(0, 1), 99);
        is("7: HEFT", x.grade(0, 3), 9);
    }

    private static void fault(String text, int place, int number) {
        WellPipes x = new WellPipes();
        is("7, 8: well " + text, Due.tell(x, text), -1000100 - place);
        is("8: fault of " + text, x.fault(), number);
    }

    private static void faults() {
        fault("", 0, 1);
        fault("W", 0, 1);
        fault("w", 1, 1);
        fault("w1", 1, 2);
        fault("w9", 1, 2);
        fault("w002", 1, 1);
        fault("w1234,", 1, 1);
        fault("w2;", 2, 1);
        fault("w2,0", 3, 2);
        fault("w2,4", 3, 2);
        fault("w2,1,21", 5, 2);
        fault("w2,1,20,", 7, 1);
        fault("w2,1,0;w", 7, 1);
        fault("w2,1,0;g0,21", 10, 2);
        fault("w2,1,0;g100", 8, 1);
        fault("w2,1,0;g0,0;", 12, 1);
        fault("w2,1,0;g0,0;x", 12, 1);
        fault("w2,1,0;g0,0;g", 12, 1);
        fault("w2,1,0;g0,0;p0", 13, 2);
        fault("w2,1,0;g0,0;p1,0", 15, 2);
        fault("w2,1,0;g0,0;p1,1,0", 17, 2);
        fault("w2,1,0;g0,0;p1,1,1,0", 19, 2);
        fault("w2,1,0;g0,0;p1,1,1,10", 19, 2);
        fault("w2,1,0;g0,0;p1,1,1,1,0", 21, 2);
        fault("w2,1,0;g0,0;p1,1,1,1,1", 22, 1);
        fault("w2,1,0;g0,0;p1,1,1,1,1,", 22, 1);
        fault("w2,1,0;g0,0;p1,1,1,1;", 20, 1);
        fault("w2,1,0;g0,0;p1,1,1,1,1; ", 23, 1);
        fault("w2,1,0;g0,0;p1,1,1,1,1;7", 23, 1);
        fault("w 2", 1, 1);
        fault("w-2", 1, 1);
        fault("w2,1,0;g0,0;pp", 13, 1);
        fault(FIVE + "p", FIVE.length(), 3);
        fault(FIVE + "x", FIVE.length(), 1);
        fault(FIVE + "l1,1,1,1,1;", FIVE.length(), 3);
        WellPipes x = new WellPipes();
        Due.tell(x, FIVE + "t");
        Due.tell(x, FIVE);
        is("8: the latest one", x.fault(), 3);
        Due.tell(x, "w9");
        is("8: a later one", x.fault(), 2);
    }

    private static void undo() {
        WellPipes x = Due.with(TWO);
        x.lay(0, 1);
        x.lay(0, 0);
        x.rule(0, 7);
        x.rule(1, 8);
        x.rule(2, 9);
        x.rule(3, 2);
        x.price(1, 55);
        is("9: LEAST", x.undo(), 6);
        is("9: PRICE is as it was", x.grade(1, 4), 3);
        is("9: undo", x.undo(), 5);
        is("9: LEAST is as it was", x.stand(1), 1);
        is("9: undo", x.undo(), 4);
        is("9: FALL is as it was", x.stand(4), 0);
        is("9: undo", x.undo(), 3);
        is("9: TOP is as it was", x.stand(3), 0);
        is("9: undo", x.undo(), 2);
        is("9: MUD is as it was", x.stand(2), 0);
        is("9: undo", x.undo(), 1);
        is("9: the GRADE before", x.step(0, 0), 1);
        is("9: undo", x.undo(), 0);
        is("9: bare", x.step(0, 0), -1);
        is("9: none", x.undo(), STATE);
        for (int i = 0; i < 30; i++) {
            x.rule(1, i + 1);
        }
        is("9: 24 are kept", x.count(5), 24);
        for (int left = 23; left >= 0; left--) {
            is("9: undo", x.undo(), left);
        }
        is("9: the six oldest are forgotten", x.stand(3), 6);
        is("9: none", x.undo(), STATE);
    }

    private static void undoOfStrings() {
        WellPipes x = Due.with("w8,1,0;g0,0;t9,9,99,1,9;t9,9,99,1,8;t9,9,99,1,7;t9,9,99,1,6;t9,9,99,1,5;");
        int[] string = {4, -1, 3, 0, 2, 1, 4, 4};
        Due.lay(x, string);
        is("9: BEST is laid", x.layBest(), 40);
        is("9: BEST is undone", x.undo(), 7);
        for (int step = 0; step < 8; step++) {
            is("9: STEP " + step + " is as it was", x.step(step, 0), string[step]);
        }
        for (int i = 0; i < 26; i++) {
            x.price(0, 50 + i);
            x.lay(1, i % 2 == 0 ? 0 : -1);
        }
        for (int left = 23; left >= 0; left--) {
            is("9: of two sorts by turns", x.undo(), left);
            is("9: PRICE or GRADE", x.grade(0, 4), left % 2 == 1 ? 75 - (23 - left) / 2 : 75 - (24 - left) / 2);
        }
    }

    private static void lay() {
        WellPipes x = Due.with(FIVE);
        is("10: STEP below", x.lay(-1, 0), BAD);
        is("10: STEP above", x.lay(6, 0), BAD);
        is("10: GRADE below", x.lay(0, -2), BAD);
        is("10: GRADE above", x.lay(0, 5), BAD);
        is("10: bare already", x.lay(0, -1), STATE);
        is("10: laid", x.lay(0, 4), -1);
        is("10: that already", x.lay(0, 4), STATE);
        is("10: another", x.lay(0, 2), 4);
        is("10: bare", x.lay(0, -1), 2);
        is("10: ACTS", x.count(5), 3);
    }

    private static void layBest() {
        is("11: no WELL", new WellPipes().layBest(), STATE);
        WellPipes x = Due.with("w2,1,0;g0,0;t9,9,8,5,3;t9,9,99,2,4;");
        x.lay(0, 0);
        is("11: its COST", x.layBest(), 7);
        is("11: top", x.step(0, 0), 1);
        is("11: lowest", x.step(1, 0), 0);
        is("11: undone", x.undo(), 1);
        is("11: as it was", x.step(0, 0), 0);
        is("11: as it was", x.step(1, 0), -1);
        x.rule(3, 3);
        is("11: none", x.layBest(), NONE);
        is("11: no ACT", x.count(5), 2);
        is("11: all stays", x.step(0, 0), 0);
    }

    private static void rule() {
        is("12: no WELL", new WellPipes().rule(9, 9), STATE);
        WellPipes x = Due.with(FIVE);
        is("12: MUD", x.rule(0, 20), 9);
        is("12: MUD", x.rule(0, 0), 20);
        is("12: TOP", x.rule(1, 99), 60);
        is("12: FALL", x.rule(2, 20), 8);
        is("12: LEAST", x.rule(3, 3), 2);
        is("12: LEAST", x.rule(3, 1), 3);
        int[][] bad = {{-1, 1}, {4, 1}, {0, -1}, {0, 21}, {1, -1}, {1, 100}, {2, -1}, {2, 21}, {3, 0}, {3, 4}};
        for (int[] b : bad) {
            is("12: BAD", x.rule(b[0], b[1]), BAD);
        }
        is("12: ACTS", x.count(5), 6);
        int[] now = {6, 1, 0, 99, 20};
        for (int what = 0; what < now.length; what++) {
            is("12: stand " + what, x.stand(what), now[what]);
        }
    }

    private static void price() {
        is("13: no WELL", new WellPipes().price(0, 1), BAD);
        WellPipes x = Due.with(FIVE);
        is("13: what it was", x.price(4, 99), 60);
        is("13: what it is", x.grade(4, 4), 99);
        is("13: others stay", x.grade(3, 4), 25);
        is("13: PRICE 1", x.price(4, 1), 99);
        is("13: GRADE", x.price(5, 1), BAD);
        is("13: GRADE", x.price(-1, 1), BAD);
        is("13: PRICE", x.price(0, 0), BAD);
        is("13: PRICE", x.price(0, 100), BAD);
        is("13: ACTS", x.count(5), 2);
    }

    private static void grade() {
        WellPipes x = Due.with(FIVE);
        int[] lined = {55, 40, 50, 2, 60};
        int[] brittle = {90, 50, 99, 4, 44};
        for (int what = 0; what < 5; what++) {
            is("14: lined " + what, x.grade(4, what), lined[what]);
            is("14: brittle " + what, x.grade(2, what), brittle[what]);
        }
        is("14: what", x.grade(0, 5), BAD);
        is("14: what", x.grade(0, -1), BAD);
        is("14: GRADE", x.grade(5, 0), BAD);
        is("14: GRADE", x.grade(-1, 0), BAD);
    }

    private static void step() {
        WellPipes x = Due.with(FIVE);
        Due.lay(x, 0, 1, 2, 3, 4);
        int[][] due = {
            {0, 60, 9, 20, 1, 1}, {1, 52, 18, 17, 0, 1}, {2, 44, 27, 12, 1, 1},
            {3, 36, 36, 8, 0, 1}, {4, 28, 45, 2, 0, 1}, {-1, 20, 54, 0, 0, 0}};
        for (int s = 0; s < 6; s++) {
            for (int what = 0; what < 6; what++) {
                is("15: step " + s + " " + what, x.step(s, what), due[s][what]);
            }
        }
        is("15: what", x.step(0, 6), BAD);
        is("15: what", x.step(0, -1), BAD);
        is("15: STEP", x.step(6, 0), BAD);
        is("15: STEP", x.step(-1, 0), BAD);
        x.lay(1, -1);
        is("15: PULL past a bare one", x.step(0, 3), 15);
        is("15: PULL of a bare one", x.step(1, 3), 0);
        x.lay(3, 2);
        x.lay(1, 2);
        is("15: SECTION", x.step(1, 5), 3);
        is("15: SECTION", x.step(3, 5), 3);
        is("15: SECTION", x.step(4, 5), 1);
        x.rule(1, 10);
        is("15: BURST is 0 at least", x.step(5, 1), 0);
    }

    private static void bears() {
        WellPipes x = Due.with(FIVE);
        Due.lay(x, 0, 1, 2, 3, 4);
        int[][] due = {{60, 30, 40}, {40, 72, 60}, {90, 40, 50}, {30, 70, 30}, {65, 40, 50}};
        for (int s = 0; s < 5; s++) {
            for (int what = 0; what < 3; what++) {
                is("16: bears " + s + " " + what, x.bears(s, what), due[s][what]);
            }
        }
        is("16: bare", x.bears(5, 0), STATE);
        is("16: BAD ahead of STATE", x.bears(5, 3), BAD);
        is("16: what", x.bears(0, -1), BAD);
        is("16: STEP", x.bears(6, 0), BAD);
        // PULL 27 is far above what these bear of it, 2: DENT is 10, of the hard one 5
        WellPipes y = Due.with("w3,1,0;g0,0;p9,99,2,9,1;h9,99,2,9,1;b9,99,3,9,1;");
        Due.lay(y, 0, 0, 0);
        is("16: DENT is 10 at most", y.bears(0, 1), 0);
        y.lay(0, 1);
        is("16: of a hard one half of that", y.bears(0, 1), 49);
        y.lay(0, 2);
        is("16: half of 3 rounded up", y.bears(0, 2), 2);
    }

    private static void stand() {
        is("17: no WELL ahead of BAD", new WellPipes().stand(99), STATE);
        WellPipes x = Due.with(FIVE);
        Due.lay(x, 0, 1, 2, 3, 4);
        int[] due = {6, 2, 9, 60, 8, 180, 20, 1, 0};
        for (int what = 0; what < 9; what++) {
            is("17: stand " + what, x.stand(what), due[what]);
        }
        is("17: what", x.stand(9), BAD);
        is("17: what", x.stand(-1), BAD);
        WellPipes y = Due.with(TWO);
        Due.lay(y, 0, 1);
        is("17: all HOLD", y.stand(7), NONE);
        is("17: SOUND", y.stand(8), 1);
        y.rule(3, 2);
        is("17: all HOLD yet", y.stand(7), NONE);
        is("17: SECTIONS too short", y.stand(8), 0);
        y.lay(0, 1);
        is("17: one SECTION", y.stand(8), 1);
        y.lay(0, -1);
        is("17: a bare one does not HOLD", y.stand(7), 0);
    }

    private static void bestIs(String text, int cost, int heft, int... string) {
        WellPipes x = Due.with(text);
        is("18: COST of " + text, x.best(0), cost);
        is("18: HEFT of " + text, x.best(1), heft);
        for (int step = 0; step < string.length; step++) {
            is("18: STEP " + step + " of " + text, x.best(10 + step), string[step]);
        }
        is("18: no STEP of " + text, x.best(10 + string.length), BAD);
        is("18: nothing is laid of " + text, x.count(3), 0);
    }

    private static void best() {
        is("18: no WELL ahead of BAD", new WellPipes().best(99), STATE);
        bestIs("w2,1,0;g0,0;t9,9,99,5,3;t9,9,99,2,4;", 6, 10, 0, 0);
        bestIs("w2,1,0;g0,0;t9,9,99,5,3;t9,9,99,2,3;", 6, 4, 1, 1);
        bestIs("w2,1,0;g0,0;t9,9,99,2,3;t9,9,99,2,3;", 6, 4, 0, 0);
        bestIs("w2,1,0;g0,0;t9,9,8,5,3;t9,9,99,2,4;", 7, 7, 1, 0);
        bestIs("w3,1,0;g20,9;t20,9,99,2,5;t11,9,99,2,3;", 11, 6, 0, 1, 1);
        bestIs("w3,2,0;g20,9;t20,9,99,2,5;t11,9,99,2,3;", 15, 6, 0, 0, 0);
        bestIs("w5,2,0;g20,9;t20,9,99,2,5;t11,9,99,2,3;", 19, 10, 0, 0, 1, 1, 1);
        bestIs("w8,3,0;g20,1;t20,9,99,9,99;t14,9,99,9,99;", 792, 72, 0, 0, 0, 0, 0, 0, 0, 0);
        String strong = "t9,9,99,9,99;";
        bestIs("w8,3,0;g0,0;" + strong.repeat(4) + "l9,9,99,9,98;", 784, 72, 4, 4, 4, 4, 4, 4, 4, 4);
        bestIs("w2,3,0;g0,0;t9,9,99,2,3;", NONE, NONE, NONE, NONE);
        bestIs("w2,1,0;g10,0;t9,9,99,2,3;", NONE, NONE, NONE, NONE);
        WellPipes x = Due.with(TWO);
        is("18: what", x.best(2), BAD);
        is("18: what", x.best(9), BAD);
        is("18: what", x.best(-1), BAD);
        is("18: what", x.best(LEAST_INT), BAD);
    }

    private static void without() {
        is("19: no WELL", new WellPipes().without(0), BAD);
        WellPipes x = Due.with("w3,1,0;g20,9;t20,9,99,2,5;t11,9,99,2,3;");
        is("19: without the cheap one", x.without(1), 15);
        is("19: without the strong one", x.without(0), NONE);
        is("19: GRADE", x.without(2), BAD);
        is("19: GRADE", x.without(-1), BAD);
    }

    private static void most() {
        is("20: no WELL ahead of BAD", new WellPipes().most(9), STATE);
        WellPipes x = Due.with("w2,1,5;g40,10;t50,60,20,4,7;l30,71,20,4,9;p99,99,1,9,1;");
        is("20: bare", x.most(0), NONE);
        Due.lay(x, 0, 1);
        is("20: MUD", x.most(0), 35);
        is("20: TOP", x.most(1), 50);
        is("20: nothing changes", x.stand(2), 5);
        is("20: nothing changes", x.stand(3), 40);
        is("20: what", x.most(2), BAD);
        is("20: what", x.most(-1), BAD);
        x.rule(1, 51);
        is("20: MUD, but gas is too great", x.most(0), NONE);
        x.lay(0, 2);
        is("20: TOP, but PULL is too great", x.most(1), NONE);
        WellPipes y = Due.with("w2,1,5;g40,10;l99,99,20,4,7;");
        Due.lay(y, 0, 0);
        is("20: MUD is 40 at most", y.most(0), 40);
        is("20: TOP is 99 at most", y.most(1), 99);
        WellPipes z = Due.with("w2,1,5;g0,0;t1,1,20,4,7;");
        Due.lay(z, 0, 0);
        is("20: MUD 0", z.most(0), 0);
    }

    private static void need() {
        is("21: no WELL", new WellPipes().need(0), BAD);
        WellPipes x = Due.with(FIVE);
        Due.lay(x, 0, 1, 2, 3, 4);
        is("21: need", x.need(1), 21);
        is("21: nothing changes", x.step(1, 0), 1);
        x.lay(1, -1);
        is("21: of a bare one", x.need(1), 21);
        is("21: STEP", x.need(6), BAD);
        is("21: STEP", x.need(-1), BAD);
    }

    private static void setsAre(WellPipes x, int v, int many, int all, int any) {
        is("22: sets of " + v, x.sets(v, 0), many);
        is("22: in all of " + v, x.sets(v, 1), all);
        is("22: in any of " + v, x.sets(v, 2), any);
    }

    private static void sets() {
        is("22: no WELL ahead of BAD", new WellPipes().sets(-1, 9), STATE);
        WellPipes x = Due.with("w4,1,0;g0,0;t9,9,99,5,5;t9,9,99,2,10;");
        Due.lay(x, 0, -1, 0, 1);
        setsAre(x, 0, 1, 0, 0);
        setsAre(x, 3, 0, 0, 0);
        setsAre(x, 10, 2, 0, 13);
        setsAre(x, 15, 2, 8, 13);
        setsAre(x, 20, 1, 13, 13);
        setsAre(x, 792, 0, 0, 0);
        is("22: v", x.sets(-1, 0), BAD);
        is("22: v", x.sets(793, 0), BAD);
        is("22: what", x.sets(0, 3), BAD);
        is("22: what", x.sets(0, -1), BAD);
        WellPipes y = Due.with("w8,1,0;g0,0;t9,9,99,5,99;");
        Due.lay(y, 0, 0, 0, 0, 0, 0, 0, 0);
        setsAre(y, 792, 1, 255, 255);
        setsAre(y, 396, 70, 0, 255);
    }

    private static void share() {
        is("23: no WELL", new WellPipes().share(0, 1), BAD);
        WellPipes x = Due.with("w4,1,0;g0,0;t9,9,99,3,5;t9,9,99,2,10;");
        is("23: all bare", x.share(0, 999), 0);
        Due.lay(x, -1, 0, 1, 1);
        int[] due = {0, 5, 3, 2};
        for (int s = 0; s < 4; s++) {
            is("23: share of 10", x.share(s, 10), due[s]);
            is("23: share of 0", x.share(s, 0), 0);
        }
        is("23: share of 999", x.share(1, 999), 429);
        is("23: share of 999", x.share(2, 999), 285);
        is("23: n", x.share(0, 1000), BAD);
        is("23: n", x.share(0, -1), BAD);
        is("23: STEP", x.share(4, 1), BAD);
        is("23: STEP", x.share(-1, 1), BAD);
    }

    private static void byTurns() {
        is("24: no WELL ahead of BAD", new WellPipes().byTurns(9), STATE);
        WellPipes x = Due.with("w4,3,0;g0,0;t9,9,99,1,10;t9,9,99,9,3;");
        int[] due = {0, 3, 13, 16, 26};
        for (int n = 0; n < 5; n++) {
            is("24: turns of " + n, x.byTurns(n), due[n]);
        }
        is("24: n", Due.with("w8,1,0;g0,0;t9,9,99,1,1;").byTurns(5), BAD);
        is("24: n", x.byTurns(-1), BAD);
        Due.lay(x, 0, 1, 0, 1);
        is("24: whatever is laid", x.byTurns(4), 26);
        WellPipes y = Due.with("w2,1,0;g0,0;t9,9,9,1,10;t9,9,9,9,3;");
        is("24: the buyer ends it by HEFT", y.byTurns(2), 3);
        is("24: more than there are", y.byTurns(3), BAD);
        is("24: none HOLDS at the lowest", Due.with("w3,1,9;g0,0;t9,20,9,1,10;").byTurns(3), 0);
    }

    private static void tellRow(WellPipes x, int row, int from, int... grades) {
        for (int i = 0; i < grades.length; i++) {
            x.set(row, from + i, grades[i]);
        }
    }

    private static void who() {
        is("25: no WELL", new WellPipes().who(0, 1, 0, 0), BAD);
        WellPipes x = Due.with("w2,1,20;g0,0;t9,40,99,5,3;t9,40,99,2,9;");
        is("25: NULL", x.who(0, 0, 0, 0), Due.NULL);
        x.row(0, 1, 4);
        tellRow(x, 0, 2, 0, 1);
        is("25: KINDS of 0 0", x.who(0, 0, 0, 0), 54);
        is("25: KINDS of 0 1", x.who(0, 0, 0, 2), 8);
        is("25: KINDS of the other, 0 0", x.who(1, 0, 0, 0), 62);
        is("25: PLACE", x.who(0, 0, 0, 3), Due.PLACE);
        is("25: PLACE", x.who(0, 0, 0, -1), Due.PLACE);
        is("25: PLACE", x.who(0, 0, 0, MOST_INT), Due.PLACE);
        is("25: GRADE", x.who(2, 1, 0, 0), BAD);
        is("25: GRADE", x.who(-1, 0, 0, 0), BAD);
        is("25: which", x.who(0, 2, 0, 0), BAD);
        is("25: which", x.who(0, -1, 0, 0), BAD);
        is("25: ROW", x.who(0, 0, 8, 0), BAD);
        tellRow(x, 0, 0, -1, 5);
        is("25: no GRADES", x.who(0, 0, 0, 0), 0);
        is("25: KIND stays", x.kind(0), 4);
        WellPipes y = Due.with("w3,2,0;g20,9;t20,9,99,2,5;t11,9,99,2,3;");
        y.row(7, 2, 6);
        tellRow(y, 7, 0, 0, 1, 1);
        is("25: LEASTS of 0 1 1", y.who(0, 1, 7, 0), 2);
        is("25: LEASTS of 0 0 0", y.who(0, 1, 7, 3), 12);
        is("25: LEAST stays", y.stand(1), 2);
    }

    private static void flawsAre(WellPipes x, int p, int above, int below) {
        is("26: above by " + p, x.flaws(p, 0), above);
        is("26: below by " + p, x.flaws(p, 1), below);
    }

    private static void flaws() {
        is("26: no WELL ahead of BAD", new WellPipes().flaws(99, 9), STATE);
        WellPipes x = Due.with("w2,1,0;g20,5;t39,9,99,1,1;t40,9,99,1,1;l30,9,99,1,1;");
        flawsAre(x, 3, 0, 1);
        Due.lay(x, 0, 0);
        flawsAre(x, 3, 7, 10);
        flawsAre(x, 5, 1, 2);
        flawsAre(x, 0, 1, 1);
        flawsAre(x, 10, 0, 1);
        x.rule(2, 0);
        flawsAre(x, 2, 16, 25);
        x.lay(0, 1);
        x.lay(1, 2);
        flawsAre(x, 10, 1, 1);
        x.lay(1, -1);
        flawsAre(x, 0, 0, 1);
        is("26: p", x.flaws(-1, 0), BAD);
        is("26: p", x.flaws(11, 0), BAD);
        is("26: what", x.flaws(0, 2), BAD);
        is("26: what", x.flaws(0, -1), BAD);
        WellPipes y = Due.with("w8,1,0;g20,0;t20,9,99,1,1;");
        Due.lay(y, 0, 0, 0, 0, 0, 0, 0, 0);
        flawsAre(y, 1, 43046721, 100000000);
    }

    private static void drawn() {
        is("27: no WELL ahead of BAD", new WellPipes().drawn(-1, 0, 9), STATE);
        // X is 16807, 282475249, 1622650073, 984943658, 1144108930: the last lays MUD 18
        WellPipes x = Due.with("w2,1,0;g0,0;t9,20,99,1,10;t9,99,99,2,3;");
        is("27: five", x.drawn(5, 1, 0), 7);
        is("27: COST", x.drawn(5, 1, 1), 13);
        is("27: one", x.drawn(1, 1, 0), 1);
        is("27: COST of one", x.drawn(1, 1, 1), 10);
        is("27: nothing changes", x.count(3), 0);
        is("27: nothing changes", x.stand(2), 0);
        x.lay(0, 1);
        is("27: none", x.drawn(0, 1, 0), 0);
        is("27: COST of what is laid", x.drawn(0, 1, 1), 3);
        is("27: five behind what is laid", x.drawn(5, 1, 0), 10);
        WellPipes y = Due.with("w2,1,0;g0,0;t9,17,99,1,10;t9,99,99,2,3;");
        is("27: MUD is too great", y.drawn(5, 1, 0), 6);
        int[][] bad = {{-1, 1, 0}, {61, 1, 0}, {1, 0, 0}, {1, 1000000, 0}, {1, 1, 2}, {1, 1, -1}};
        for (int[] b : bad) {
            is("27: BAD", x.drawn(b[0], b[1], b[2]), BAD);
        }
        is("27: the ends", x.drawn(60, 999999, 1) > 0 ? 1 : 0, 1);
    }

    private static void images() {
        WellPipes x = new WellPipes();
        is("28: BAD ahead of STATE", x.image(2), BAD);
        is("28: BAD", x.image(-1), BAD);
        is("28: no WELL", x.image(0), STATE);
        is("29: BAD ahead of STATE", x.restore(2), BAD);
        is("29: BAD", x.restore(-1), BAD);
        is("29: none", x.restore(0), STATE);
        Due.tell(x, TWO);
        x.lay(1, 0);
        is("28: image", x.image(0), 1);
        is("28: ACTS stay", x.count(5), 1);
        x.price(0, 77);
        x.rule(0, 20);
        x.rule(1, 7);
        x.rule(2, 7);
        x.rule(3, 3);
        x.lay(1, 1);
        is("28: the other one", x.image(1), 1);
        Due.tell(x, FIVE);
        is("29: restore", x.restore(0), 1);
        is("29: no ACT", x.undo(), STATE);
        int[] due = {2, 1, 0, 0, 0, 10, 1};
        for (int what = 0; what < due.length; what++) {
            is("29: stand " + what, x.stand(what), due[what]);
        }
        is("29: KIND", x.kind(0), 4);
        is("29: GRADES", x.count(1), 2);
        x.lay(1, -1);
        is("29: again", x.restore(0), 1);
        is("29: an IMAGE is not what stands", x.step(1, 0), 0);
        is("29: the other", x.restore(1), 1);
        is("29: the other's COST", x.stand(5), 3);
        is("29: the other's PRICE", x.grade(0, 4), 77);
        is("29: the other's LEAST", x.stand(1), 3);
    }

    private static void kindAndAs() {
        is("30: no WELL", new WellPipes().kind(0), BAD);
        is("31: no WELL", new WellPipes().as(0, 0), BAD);
        WellPipes x = Due.with(FIVE);
        String[] are = {"01", "012", "013", "04", "045"};
        for (int one = 0; one < 5; one++) {
            is("30: kind", x.kind(one), one + 1);
            for (int kind = 0; kind < 6; kind++) {
                boolean is = are[one].indexOf('0' + kind) >= 0;
                is("31: " + one + " as " + kind, x.as(one, kind), is ? one : Due.KIND);
                is("31: status", x.status(), is ? 0 : 3);
            }
        }
        is("30: GRADE", x.kind(5), BAD);
        is("30: GRADE", x.kind(-1), BAD);
        is("31: GRADE", x.as(5, 0), BAD);
        is("31: KIND", x.as(0, 6), BAD);
        is("31: KIND", x.as(0, -1), BAD);
    }

    private static void asked(WellPipes x, int one, int what, int answer, int... trace) {
        String name = "32: ask " + one + " " + what;
        is(name, x.ask(one, what), answer);
        for (int i = 0; i < trace.length; i++) {
            is("33: trace of " + name, x.trace(i), trace[i]);
        }
        is("33: end of " + name, x.trace(trace.length), NONE);
    }

    private static void askAndTrace() {
        is("32: no WELL", new WellPipes().ask(0, 0), BAD);
        WellPipes x = Due.with(FIVE);
        asked(x, 0, 0, 23, 11, 10, 21, 20);
        asked(x, 0, 1, 3, 21, 20);
        asked(x, 1, 0, -43, 12, 11, 10, 24, 21, 20);
        asked(x, 1, 1, 12, 24, 21, 20);
        asked(x, 2, 0, -950, 11, 10, 22, 21, 20);
        asked(x, 2, 1, -994, 22, 21, 20);
        asked(x, 3, 0, -75, 13, 10);
        asked(x, 3, 1, 78, 23, 20, 13, 10);
        asked(x, 4, 0, -80, 14, 13, 10);
        asked(x, 4, 1, 84, 23, 20, 14, 13, 10);
        is("32: GRADE", x.ask(5, 0), BAD);
        is("32: what", x.ask(0, 2), BAD);
        is("32: what", x.ask(0, -1), BAD);
        is("33: what is refused leaves THE TRACE", x.trace(0), 23);
        is("33: below", x.trace(-1), NONE);
        is("33: far above", x.trace(MOST_INT), NONE);
        x.price(4, 99);
        asked(x, 4, 0, -2, 14, 13, 10);
    }

    private static void count() {
        WellPipes x = Due.with(FIVE);
        Due.lay(x, 2, 2, -1, 2, 1, 1);
        x.row(3, 0, 0);
        x.feed(1);
        int[] due = {1, 5, 6, 5, 3, 5, 1};
        for (int what = 0; what < due.length; what++) {
            is("34: count " + what, x.count(what), due[what]);
        }
        is("34: what", x.count(7), BAD);
        is("34: what", x.count(-1), BAD);
    }

    private static void status() {
        WellPipes x = Due.with(TWO);
        x.drop(0);
        is("35: NULL", x.status(), 1);
        x.drop(8);
        x.row(0, 3, 0);
        x.set(-1, 0, 0);
        x.as(0, 9);
        x.who(9, 0, 0, 0);
        x.undo();
        is("35: what is BAD leaves it", x.status(), 1);
        x.row(0, 0, 2);
        is("35: none", x.status(), 0);
        x.set(0, 2, 0);
        is("35: PLACE", x.status(), 2);
        x.lay(0, 0);
        is("35: a call without a ROW leaves it", x.status(), 2);
        x.set(0, 0, 0);
        is("35: none", x.status(), 0);
        x.row(0, 0, -5);
        is("35: SIZE", x.status(), 4);
        x.who(0, 0, 0, 0);
        is("35: none", x.status(), 0);
        x.who(0, 0, 0, 1);
        is("35: PLACE", x.status(), 2);
        x.copy(0, 0, 0, 0, 1);
        is("35: none", x.status(), 0);
        x.row(1, 1, 2);
        x.copy(0, 0, 1, 0, 1);
        is("35: STORE", x.status(), 5);
        x.drop(1);
        is("35: none", x.status(), 0);
        x.as(0, 1);
        is("35: KIND", x.status(), 3);
        x.as(0, 4);
        is("35: none", x.status(), 0);
    }
}
