/** Counts the answers that are not as due, and tells each. */
final class Due {
    static final int NONE = -1000000, BAD = -1000001, STATE = -1000002, FULL = -1000003;
    static final int NULL = -1000011, PLACE = -1000012, KIND = -1000013, SIZE = -1000014, STORE = -1000015;

    private int asked;
    private int wrong;

    void is(String what, long got, long want) {
        asked++;
        if (got != want) {
            wrong++;
            System.out.println(what + " answered " + got + ", due is " + want);
        }
    }

    int asked() {
        return asked;
    }

    boolean anyWrong() {
        return wrong > 0;
    }

    void end() {
        System.out.println(asked + " answers, " + wrong + " not as due");
        if (wrong > 0 || asked == 0) {
            System.exit(1);
        }
    }

    static int tell(WellPipes x, String text) {
        for (int i = 0; i < text.length(); i++) {
            x.feed(text.charAt(i));
        }
        return x.well();
    }

    static WellPipes with(String text) {
        WellPipes x = new WellPipes();
        if (tell(x, text) < 1) {
            throw new IllegalArgumentException(text);
        }
        return x;
    }

    static void lay(WellPipes x, int... grades) {
        for (int step = 0; step < grades.length; step++) {
            x.lay(step, grades[step]);
        }
    }
}
