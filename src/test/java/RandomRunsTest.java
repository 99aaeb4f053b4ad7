import java.util.Random;

/** Runs of up to 512 calls each, drawn by fixed seeds, on the class and on the plain model side by side. */
public final class RandomRunsTest {
    /** One turn makes no more calls than a text has bytes, and two; what is called behind 512 is free. */
    private static final int RUNS = 800, CALLS = 512, MOST_OF_A_TURN = 132;
    private static final Due DUE = new Due();
    private static Random draw;
    private static WellPipes x;
    private static PlainModel m;
    private static StringBuilder told;
    private static int calls;

    public static void main(String[] args) {
        int runs = args.length > 0 ? Integer.parseInt(args[0]) : RUNS;
        for (int run = 0; run < runs && !DUE.anyWrong(); run++) {
            draw = new Random(run);
            x = new WellPipes();
            m = new PlainModel();
            told = new StringBuilder("run " + run + ":");
            calls = 0;
            while (calls <= CALLS - MOST_OF_A_TURN && !DUE.anyWrong()) {
                if (calls == 0 || draw.nextInt(120) == 0) tell();
                else one();
            }
        }
        DUE.end();
    }

    private static int upTo(int n) { return draw.nextInt(n + 1); }

    private static int near(int low, int high) {
        int wild = draw.nextInt(60);
        if (wild == 0) return draw.nextInt();
        if (wild == 1) return draw.nextBoolean() ? Integer.MIN_VALUE : Integer.MAX_VALUE;
        if (wild < 5) return low - 1;
        if (wild < 8) return high + 1;
        return low + draw.nextInt(high - low + 1);
    }

    private static void due(String call, long got, long want) {
        calls++;
        told.append(' ').append(call);
        if (got != want) {
            DUE.is(told.toString(), got, want);
        } else {
            DUE.is(call, got, want);
        }
    }

    private static String text() {
        boolean mild = draw.nextInt(4) != 0;
        int steps = draw.nextInt(8) == 0 ? 2 + upTo(6) : 2 + upTo(4);
        int most = steps > 6 ? 3 : 5;
        if (draw.nextInt(40) == 0) { steps = 8; most = 5; }
        StringBuilder b = new StringBuilder();
        b.append('w').append(steps).append(',').append(1 + upTo(2)).append(',').append(upTo(mild ? 10 : 20)).append(';');
        b.append('g').append(upTo(mild ? 60 : 99)).append(',').append(upTo(20)).append(';');
        int grades = 1 + draw.nextInt(most);
        int prices = draw.nextInt(3) == 0 ? 2 : draw.nextInt(3) == 0 ? 10 : 98;
        for (int g = 0; g < grades; g++) {
            b.append("phbtl".charAt(upTo(4)));
            for (int k = 0; k < 3; k++) b.append(mild ? 30 + upTo(69) : 1 + upTo(98)).append(',');
            b.append(1 + upTo(draw.nextInt(3) == 0 ? 2 : 8)).append(',').append(1 + upTo(prices)).append(';');
        }
        return b.toString();
    }

    private static String spoilt(String text) {
        StringBuilder b = new StringBuilder(text);
        String signs = "phbtlwg,;0123456789x P-/:{`";
        for (int k = 1 + upTo(1); k > 0; k--) {
            int at = draw.nextInt(b.length());
            int way = draw.nextInt(6);
            if (way == 0) b.deleteCharAt(at);
            else if (way == 1) b.insert(at, signs.charAt(draw.nextInt(signs.length())));
            else if (way == 2) b.setLength(Math.max(1, at));
            else if (way == 3) b.append("p1,1,1,1,1;");
            else if (way == 4) b.setCharAt(at, (char) draw.nextInt(256));
            else b.setCharAt(at, signs.charAt(draw.nextInt(signs.length())));
        }
        return b.toString();
    }

    private static void tell() {
        String text = text();
        if (draw.nextInt(3) == 0) text = spoilt(text);
        for (int i = 0; i < text.length(); i++) {
            int c = text.charAt(i);
            due("feed(" + c + ")", x.feed(c), m.feed(c));
        }
        due("well()", x.well(), m.well());
        due("fault()", x.fault(), m.fault());
    }

    private static void one() {
        int s = near(0, 7), g = near(0, 4), w = 0, v = 0, r = near(0, 2);
        if (m.hole != null && draw.nextInt(5) != 0) { s = draw.nextInt(m.hole.steps); g = draw.nextInt(m.hole.grades.size()); }
        switch (draw.nextInt(40)) {
            case 0 -> { w = near(0, 2); v = near(0, 40); due("row(" + r + ", " + w + ", " + v + ")", x.row(r, w, v), m.row(r, w, v)); }
            case 1 -> { w = near(0, 20); v = draw.nextInt(3) == 0 ? draw.nextInt() : near(-1, 4);
                due("set(" + r + ", " + w + ", " + v + ")", x.set(r, w, v), m.set(r, w, v)); }
            case 2 -> { int b = near(0, 2), i = near(0, 20), j = near(0, 20), n = near(0, 20);
                due("copy(" + r + ", " + i + ", " + b + ", " + j + ", " + n + ")", x.copy(r, i, b, j, n), m.copy(r, i, b, j, n)); }
            case 3 -> { if (draw.nextInt(4) == 0) due("drop(" + r + ")", x.drop(r), m.drop(r)); }
            case 4 -> { v = near(0, 255); if (draw.nextInt(30) == 0) due("feed(" + v + ")", x.feed(v), m.feed(v)); }
            case 5, 6 -> due("undo()", x.undo(), m.undo());
            case 7, 8, 9, 10 -> { v = draw.nextInt(6) == 0 ? -1 : g; due("lay(" + s + ", " + v + ")", x.lay(s, v), m.lay(s, v)); }
            case 11, 12 -> due("layBest()", x.layBest(), m.layBest());
            case 13 -> { w = near(0, 3); v = w == 3 ? near(1, 3) : near(0, w == 1 ? 99 : 20);
                due("rule(" + w + ", " + v + ")", x.rule(w, v), m.rule(w, v)); }
            case 14 -> { v = near(1, 99); due("price(" + g + ", " + v + ")", x.price(g, v), m.price(g, v)); }
            case 15 -> { w = near(0, 4); due("grade(" + g + ", " + w + ")", x.grade(g, w), m.grade(g, w)); }
            case 16, 17 -> { w = near(0, 5); due("step(" + s + ", " + w + ")", x.step(s, w), m.step(s, w)); }
            case 18 -> { w = near(0, 2); due("bears(" + s + ", " + w + ")", x.bears(s, w), m.bears(s, w)); }
            case 19, 20 -> { w = near(0, 8); due("stand(" + w + ")", x.stand(w), m.stand(w)); }
            case 21 -> { w = near(0, 18); due("best(" + w + ")", x.best(w), m.best(w)); }
            case 22 -> due("without(" + g + ")", x.without(g), m.without(g));
            case 23 -> { w = near(0, 1); due("most(" + w + ")", x.most(w), m.most(w)); }
            case 24 -> due("need(" + s + ")", x.need(s), m.need(s));
            case 25, 26 -> { w = near(0, 2); v = draw.nextInt(3) == 0 ? near(0, 792) : somePrice();
                due("sets(" + v + ", " + w + ")", x.sets(v, w), m.sets(v, w)); }
            case 27 -> { v = near(0, 999); due("share(" + s + ", " + v + ")", x.share(s, v), m.share(s, v)); }
            case 28 -> { v = near(0, 4); due("byTurns(" + v + ")", x.byTurns(v), m.byTurns(v)); }
            case 29, 30 -> who(g, r);
            case 31 -> { v = near(0, 10); w = near(0, 1); due("flaws(" + v + ", " + w + ")", x.flaws(v, w), m.flaws(v, w)); }
            case 32 -> { int n = near(0, 60); v = near(1, 999999); w = near(0, 1);
                due("drawn(" + n + ", " + v + ", " + w + ")", x.drawn(n, v, w), m.drawn(n, v, w)); }
            case 33 -> { v = near(0, 1); due("image(" + v + ")", x.image(v), m.image(v)); }
            case 34 -> { v = near(0, 1); if (draw.nextInt(4) == 0) due("restore(" + v + ")", x.restore(v), m.restore(v)); }
            case 35 -> { due("kind(" + g + ")", x.kind(g), m.kind(g)); v = near(0, 5);
                due("as(" + g + ", " + v + ")", x.as(g, v), m.as(g, v)); }
            case 36 -> { w = near(0, 1); due("ask(" + g + ", " + w + ")", x.ask(g, w), m.ask(g, w)); }
            case 37 -> { v = near(0, 6); due("trace(" + v + ")", x.trace(v), m.trace(v)); }
            case 38 -> { v = near(0, 6); due("count(" + v + ")", x.count(v), m.count(v)); }
            default -> due("status()", x.status(), m.status());
        }
    }

    private static int somePrice() {
        int sum = 0;
        if (m.hole == null) return 0;
        for (int g : m.hole.laid) if (g >= 0 && draw.nextBoolean()) sum += m.hole.grades.get(g).price;
        return sum;
    }

    /** Mostly with a ROW that tells a string that is BEST by some KIND or LEAST. */
    private static void who(int g, int r) {
        int w = near(0, 1), i = near(0, 3);
        if (m.hole != null && draw.nextInt(4) != 0 && g >= 0 && g < m.hole.grades.size() && r >= 0 && r < 8) {
            PlainModel.Hole h = m.hole.copyOf();
            if (w == 0) h.grades.get(g).sort = "phbtl".charAt(upTo(4));
            else h.least = 1 + upTo(2);
            int[] b = PlainModel.best(h, -1);
            int lane = upTo(2);
            due("row(" + r + ", " + lane + ", 12)", x.row(r, lane, 12), m.row(r, lane, 12));
            for (int k = 0; b != null && k < b.length; k++) {
                due("set(" + r + ", " + (i + k) + ", " + b[k] + ")", x.set(r, i + k, b[k]), m.set(r, i + k, b[k]));
            }
        }
        due("who(" + g + ", " + w + ", " + r + ", " + i + ")", x.who(g, w, r, i), m.who(g, w, r, i));
    }
}
