import java.util.ArrayDeque;
import java.util.ArrayList;
import java.util.Arrays;
import java.util.HashMap;
import java.util.List;
import java.util.Map;

/** The document again, by trial of all strings and with no care for speed, to set the class against. */
final class PlainModel {
    static final int NONE = -1000000, BAD = -1000001, STATE = -1000002, FULL = -1000003;

    static final class Grade implements Cloneable {
        char sort;
        int burst, crush, pull, heft, price;

        Grade copyOf() {
            Grade g = new Grade();
            g.sort = sort; g.burst = burst; g.crush = crush; g.pull = pull; g.heft = heft; g.price = price;
            return g;
        }

        int bearsBurst() { return sort == 'l' ? burst + 10 : burst; }

        int bearsPull() { return sort == 'b' ? pull / 2 + pull % 2 : pull; }

        int bearsCrush(int at) {
            if (sort == 't' || sort == 'l') return crush;
            int dent = 10 * at / bearsPull();
            if (dent > 10) dent = 10;
            if (sort == 'h') dent = dent / 2;
            return crush * (10 - dent) / 10;
        }
    }

    static final class Hole {
        int steps, least, mud, top, fall;
        List<Grade> grades = new ArrayList<>();
        int[] laid;

        Hole copyOf() {
            Hole h = new Hole();
            h.steps = steps; h.least = least; h.mud = mud; h.top = top; h.fall = fall;
            for (Grade g : grades) h.grades.add(g.copyOf());
            h.laid = laid.clone();
            return h;
        }

        int burst(int s) { int b = top - fall * s; return b < 0 ? 0 : b; }

        int crush(int s) { return mud * (s + 1); }

        int pull(int s) {
            if (laid[s] < 0) return 0;
            int sum = 0;
            for (int d = s; d < steps; d++) if (laid[d] >= 0) sum += grades.get(laid[d]).heft;
            return sum;
        }

        boolean holds(int s) { return holds(s, false); }

        boolean holds(int s, boolean flawed) {
            if (laid[s] < 0) return false;
            Grade g = grades.get(laid[s]);
            int burst = g.bearsBurst();
            if (flawed) burst /= 2;
            return burst >= burst(s) && g.bearsPull() >= pull(s) && g.bearsCrush(pull(s)) >= crush(s);
        }

        boolean allHold() {
            for (int s = 0; s < steps; s++) if (!holds(s)) return false;
            return true;
        }

        List<int[]> sections() {
            List<int[]> all = new ArrayList<>();
            for (int s = 0; s < steps; s++) {
                if (laid[s] < 0) continue;
                if (s > 0 && laid[s - 1] == laid[s]) all.get(all.size() - 1)[1]++;
                else all.add(new int[] {s, 1});
            }
            return all;
        }

        int section(int s) {
            if (laid[s] < 0) return 0;
            for (int[] x : sections()) if (s >= x[0] && s < x[0] + x[1]) return x[1];
            throw new IllegalStateException();
        }

        boolean sound() {
            for (int[] x : sections()) if (x[1] < least) return false;
            return allHold();
        }

        int cost() {
            int c = 0;
            for (int g : laid) if (g >= 0) c += grades.get(g).price;
            return c;
        }

        int heft() {
            int c = 0;
            for (int g : laid) if (g >= 0) c += grades.get(g).heft;
            return c;
        }

        String key() {
            StringBuilder b = new StringBuilder();
            b.append(steps).append('/').append(least).append('/').append(mud).append('/').append(top).append('/').append(fall);
            for (Grade g : grades) b.append(g.sort).append(g.burst).append(',').append(g.crush).append(',').append(g.pull)
                .append(',').append(g.heft).append(',').append(g.price);
            return b.toString();
        }
    }

    private static final Map<String, int[]> KNOWN = new HashMap<>();

    /** All strings in the order of their GRADES from the lowest STEP up; a later one must be truly better. */
    static int[] best(Hole real, int barred) {
        String key = real.key() + "-" + barred;
        if (KNOWN.containsKey(key)) return KNOWN.get(key);
        Hole h = real.copyOf();
        int n = h.grades.size();
        int all = 1;
        for (int s = 0; s < h.steps; s++) all *= n;
        int[] chosen = null;
        int cost = 0, heft = 0;
        for (int k = 0; k < all; k++) {
            int rest = k;
            boolean out = false;
            for (int s = 0; s < h.steps; s++) {
                h.laid[s] = rest % n;
                out |= h.laid[s] == barred;
                rest /= n;
            }
            if (out) continue;
            int c = h.cost(), w = h.heft();
            if (chosen != null && (c > cost || (c == cost && w >= heft))) continue;
            if (!h.sound()) continue;
            chosen = h.laid.clone(); cost = c; heft = w;
        }
        KNOWN.put(key, chosen);
        return chosen;
    }

    static int costOf(Hole h, int[] string) {
        Hole c = h.copyOf();
        c.laid = string.clone();
        return c.cost();
    }

    static int heftOf(Hole h, int[] string) {
        Hole c = h.copyOf();
        c.laid = string.clone();
        return c.heft();
    }

    Object[] rows = new Object[8];
    StringBuilder tape = new StringBuilder();
    Hole hole;
    int fault;
    ArrayDeque<Hole> before = new ArrayDeque<>();
    Hole[] images = new Hole[2];
    List<Integer> trace = new ArrayList<>();
    int status;

    private int found(int n) { status = n; return -1000010 - n; }

    private int fine(int v) { status = 0; return v; }

    private static int size(Object row) { return java.lang.reflect.Array.getLength(row); }

    int row(int row, int lane, int n) {
        if (row < 0 || row > 7 || lane < 0 || lane > 2 || n > 40) return BAD;
        if (n < 0) return found(4);
        rows[row] = lane == 0 ? new byte[n] : lane == 1 ? new short[n] : new int[n];
        return fine(n);
    }

    int set(int row, int i, int v) {
        if (row < 0 || row > 7) return BAD;
        if (rows[row] == null) return found(1);
        if (i < 0 || i >= size(rows[row])) return found(2);
        if (rows[row] instanceof byte[] b) b[i] = (byte) v;
        else if (rows[row] instanceof short[] s) s[i] = (short) v;
        else ((int[]) rows[row])[i] = v;
        return fine(item(row, i));
    }

    int item(int row, int i) { return java.lang.reflect.Array.getInt(rows[row], i); }

    int copy(int a, int i, int b, int j, int n) {
        if (a < 0 || a > 7 || b < 0 || b > 7) return BAD;
        if (rows[a] == null || rows[b] == null) return found(1);
        if (rows[a].getClass() != rows[b].getClass()) return found(5);
        try {
            System.arraycopy(rows[a], i, rows[b], j, n);
        } catch (IndexOutOfBoundsException e) {
            return found(2);
        }
        return fine(n);
    }

    int drop(int row) {
        if (row < 0 || row > 7) return BAD;
        if (rows[row] == null) return found(1);
        int n = size(rows[row]);
        rows[row] = null;
        return fine(n);
    }

    int feed(int letter) {
        if (letter < 0 || letter > 255) return BAD;
        if (tape.length() == 130) return FULL;
        tape.append((char) letter);
        return tape.length();
    }

    /** TOKENS of the tape with their places, then a table of what may stand where. */
    int well() {
        String text = tape.toString();
        tape.setLength(0);
        List<String> tokens = new ArrayList<>();
        List<Integer> places = new ArrayList<>();
        java.util.regex.Matcher m = java.util.regex.Pattern.compile("(?s)[0-9]+|.").matcher(text);
        while (m.find()) {
            tokens.add(m.group());
            places.add(m.start());
        }
        String[] head = {"w", "2-8", ",", "1-3", ",", "0-20", ";", "g", "0-99", ",", "0-20", ";"};
        String[] more = {"?", "1-99", ",", "1-99", ",", "1-99", ",", "1-9", ",", "1-99", ";"};
        int t = 0;
        while (true) {
            boolean mayEnd = t > head.length && (t - head.length) % more.length == 0;
            if (t == tokens.size()) {
                if (mayEnd) break;
                return wrong(1, text.length());
            }
            String form = t < head.length ? head[t] : more[(t - head.length) % more.length];
            String token = tokens.get(t);
            if (form.equals("?")) {
                if (!"phbtl".contains(token)) return wrong(1, places.get(t));
                if ((t - head.length) / more.length == 5) return wrong(3, places.get(t));
            } else if (form.contains("-")) {
                if (!token.matches("[0-9]{1,2}")) return wrong(1, places.get(t));
                int v = Integer.parseInt(token);
                String[] ends = form.split("-");
                if (v < Integer.parseInt(ends[0]) || v > Integer.parseInt(ends[1])) return wrong(2, places.get(t));
            } else if (!form.equals(token)) {
                return wrong(1, places.get(t));
            }
            t++;
        }
        hole = new Hole();
        hole.steps = Integer.parseInt(tokens.get(1));
        hole.least = Integer.parseInt(tokens.get(3));
        hole.mud = Integer.parseInt(tokens.get(5));
        hole.top = Integer.parseInt(tokens.get(8));
        hole.fall = Integer.parseInt(tokens.get(10));
        for (int at = 12; at < tokens.size(); at += 11) {
            Grade g = new Grade();
            g.sort = tokens.get(at).charAt(0);
            g.burst = Integer.parseInt(tokens.get(at + 1));
            g.crush = Integer.parseInt(tokens.get(at + 3));
            g.pull = Integer.parseInt(tokens.get(at + 5));
            g.heft = Integer.parseInt(tokens.get(at + 7));
            g.price = Integer.parseInt(tokens.get(at + 9));
            hole.grades.add(g);
        }
        hole.laid = new int[hole.steps];
        Arrays.fill(hole.laid, -1);
        before.clear();
        return hole.grades.size();
    }

    private int wrong(int number, int place) { fault = number; return -1000100 - place; }

    int fault() { return fault; }

    int undo() {
        if (before.isEmpty()) return STATE;
        hole = before.pop();
        return before.size();
    }

    private void act() {
        before.push(hole.copyOf());
        if (before.size() > 24) before.removeLast();
    }

    private boolean noStep(int s) { return hole == null || s < 0 || s >= hole.steps; }

    private boolean noGrade(int g) { return hole == null || g < 0 || g >= hole.grades.size(); }

    int lay(int step, int grade) {
        if (noStep(step) || (grade != -1 && noGrade(grade))) return BAD;
        if (hole.laid[step] == grade) return STATE;
        act();
        int was = hole.laid[step];
        hole.laid[step] = grade;
        return was;
    }

    int layBest() {
        if (hole == null) return STATE;
        int[] b = best(hole, -1);
        if (b == null) return NONE;
        act();
        hole.laid = b.clone();
        return hole.cost();
    }

    int rule(int which, int v) {
        if (hole == null) return STATE;
        int low = which == 3 ? 1 : 0;
        int high = which == 0 || which == 2 ? 20 : which == 1 ? 99 : which == 3 ? 3 : -1;
        if (which < 0 || v < low || v > high) return BAD;
        act();
        int was;
        if (which == 0) { was = hole.mud; hole.mud = v; }
        else if (which == 1) { was = hole.top; hole.top = v; }
        else if (which == 2) { was = hole.fall; hole.fall = v; }
        else { was = hole.least; hole.least = v; }
        return was;
    }

    int price(int grade, int v) {
        if (noGrade(grade) || v < 1 || v > 99) return BAD;
        act();
        int was = hole.grades.get(grade).price;
        hole.grades.get(grade).price = v;
        return was;
    }

    int grade(int grade, int what) {
        if (noGrade(grade)) return BAD;
        Grade g = hole.grades.get(grade);
        return what == 0 ? g.burst : what == 1 ? g.crush : what == 2 ? g.pull : what == 3 ? g.heft : what == 4 ? g.price : BAD;
    }

    int step(int s, int what) {
        if (noStep(s) || what < 0 || what > 5) return BAD;
        return what == 0 ? hole.laid[s] : what == 1 ? hole.burst(s) : what == 2 ? hole.crush(s) : what == 3 ? hole.pull(s)
            : what == 4 ? (hole.holds(s) ? 1 : 0) : hole.section(s);
    }

    int bears(int s, int what) {
        if (noStep(s) || what < 0 || what > 2) return BAD;
        if (hole.laid[s] < 0) return STATE;
        Grade g = hole.grades.get(hole.laid[s]);
        return what == 0 ? g.bearsBurst() : what == 1 ? g.bearsCrush(hole.pull(s)) : g.bearsPull();
    }

    int stand(int what) {
        if (hole == null) return STATE;
        if (what == 7) {
            for (int s = 0; s < hole.steps; s++) if (!hole.holds(s)) return s;
            return NONE;
        }
        int[] plain = {hole.steps, hole.least, hole.mud, hole.top, hole.fall, hole.cost(), hole.heft(), 0, hole.sound() ? 1 : 0};
        return what < 0 || what >= plain.length ? BAD : plain[what];
    }

    int best(int what) {
        if (hole == null) return STATE;
        if (what < 0 || (what > 1 && what < 10) || what >= 10 + hole.steps) return BAD;
        int[] b = best(hole, -1);
        if (b == null) return NONE;
        return what == 0 ? costOf(hole, b) : what == 1 ? heftOf(hole, b) : b[what - 10];
    }

    int without(int grade) {
        if (noGrade(grade)) return BAD;
        int[] b = best(hole, grade);
        return b == null ? NONE : costOf(hole, b);
    }

    int most(int what) {
        if (hole == null) return STATE;
        if (what != 0 && what != 1) return BAD;
        Hole h = hole.copyOf();
        int most = NONE;
        for (int v = 0; v <= (what == 0 ? 40 : 99); v++) {
            if (what == 0) h.mud = v;
            else h.top = v;
            if (h.allHold()) most = v;
        }
        return most;
    }

    int need(int s) {
        if (noStep(s)) return BAD;
        int set = 0;
        for (int g = 0; g < hole.grades.size(); g++) {
            Hole h = hole.copyOf();
            h.laid[s] = g;
            if (h.holds(s)) set |= 1 << g;
        }
        return set;
    }

    int sets(int v, int what) {
        if (hole == null) return STATE;
        if (v < 0 || v > 792 || what < 0 || what > 2) return BAD;
        List<Integer> those = new ArrayList<>();
        gather(0, 0, v, those);
        if (what == 0) return those.size();
        int all = those.isEmpty() ? 0 : 255, any = 0;
        for (int set : those) { all &= set; any |= set; }
        return what == 1 ? all : any;
    }

    private void gather(int s, int set, int left, List<Integer> those) {
        if (s == hole.steps) {
            if (left == 0) those.add(set);
            return;
        }
        gather(s + 1, set, left, those);
        if (hole.laid[s] >= 0) gather(s + 1, set | 1 << s, left - hole.grades.get(hole.laid[s]).price, those);
    }

    int share(int step, int n) {
        if (noStep(step) || n < 0 || n > 999) return BAD;
        int all = hole.heft();
        if (all == 0) return 0;
        int[] gets = new int[hole.steps];
        int left = n;
        for (int s = 0; s < hole.steps; s++) {
            if (hole.laid[s] >= 0) gets[s] = n * hole.grades.get(hole.laid[s]).heft / all;
            left -= gets[s];
        }
        for (int s = 0; s < hole.steps && left > 0; s++) if (hole.laid[s] >= 0) { gets[s]++; left--; }
        return gets[step];
    }

    int byTurns(int n) {
        if (hole == null) return STATE;
        if (n < 0 || n > 4 || n > hole.steps) return BAD;
        Hole h = hole.copyOf();
        Arrays.fill(h.laid, -1);
        return turn(h, n, 0);
    }

    private int turn(Hole h, int n, int done) {
        if (done == n) return h.cost();
        int s = h.steps - 1 - done;
        List<Integer> outcomes = new ArrayList<>();
        for (int g = 0; g < h.grades.size(); g++) {
            h.laid[s] = g;
            if (h.holds(s)) outcomes.add(turn(h, n, done + 1));
        }
        h.laid[s] = -1;
        if (outcomes.isEmpty()) return h.cost();
        return done % 2 == 0 ? java.util.Collections.min(outcomes) : java.util.Collections.max(outcomes);
    }

    int who(int grade, int which, int row, int i) {
        if (noGrade(grade) || which < 0 || which > 1 || row < 0 || row > 7) return BAD;
        if (rows[row] == null) return found(1);
        if (i < 0 || (long) i + hole.steps > size(rows[row])) return found(2);
        int[] told = new int[hole.steps];
        for (int s = 0; s < hole.steps; s++) told[s] = item(row, i + s);
        int set = 0;
        for (int v = 1; v <= (which == 0 ? 5 : 3); v++) {
            Hole h = hole.copyOf();
            if (which == 0) h.grades.get(grade).sort = "?phbtl".charAt(v);
            else h.least = v;
            if (Arrays.equals(told, best(h, -1))) set |= 1 << v;
        }
        return fine(set);
    }

    /** Over all cases of flawed STEPS, one by one. */
    long flaws(int p, int what) {
        if (hole == null) return STATE;
        if (p < 0 || p > 10 || what < 0 || what > 1) return BAD;
        long above = 0, below = 1;
        for (int s = 0; s < hole.steps; s++) below *= 10;
        for (int flawed = 0; flawed < 1 << hole.steps; flawed++) {
            long weight = 1;
            for (int s = 0; s < hole.steps; s++) {
                boolean f = (flawed >> s & 1) == 1;
                weight *= hole.holds(s, f) ? (f ? p : 10 - p) : 0;
            }
            above += weight;
        }
        java.math.BigInteger g = java.math.BigInteger.valueOf(above).gcd(java.math.BigInteger.valueOf(below));
        return (what == 0 ? above : below) / g.longValue();
    }

    int drawn(int n, int seed, int what) {
        if (hole == null) return STATE;
        if (n < 0 || n > 60 || seed < 1 || seed > 999999 || what < 0 || what > 1) return BAD;
        Hole h = hole.copyOf();
        long x = seed;
        int held = 0;
        for (int k = 0; k < n; k++) {
            x = x * 16807 % 2147483647L;
            h.laid[(int) (x % h.steps)] = (int) (x / 16 % h.grades.size());
            if (x % 5 == 0) h.mud = (int) (x / 256 % 21);
            for (int s = 0; s < h.steps; s++) if (h.holds(s)) held++;
        }
        return what == 0 ? held : h.cost();
    }

    int image(int k) {
        if (k != 0 && k != 1) return BAD;
        if (hole == null) return STATE;
        images[k] = hole.copyOf();
        return 1;
    }

    int restore(int k) {
        if (k != 0 && k != 1) return BAD;
        if (images[k] == null) return STATE;
        hole = images[k].copyOf();
        before.clear();
        return 1;
    }

    int kind(int one) { return noGrade(one) ? BAD : "?phbtl".indexOf(hole.grades.get(one).sort); }

    int as(int one, int kind) {
        if (noGrade(one) || kind < 0 || kind > 5) return BAD;
        String[] are = {"phbtl", "phb", "h", "b", "tl", "l"};
        return are[kind].indexOf(hole.grades.get(one).sort) < 0 ? found(3) : fine(one);
    }

    /** KINDS as classes of Java, so that Java itself finds the BODIES. */
    private interface Asked {
        Grade it();
        int number();
        List<Integer> traced();
        default int size() { traced().add(10); return it().price; }
        default int mark() { traced().add(20); return number(); }
    }

    private static class AnyGrade implements Asked {
        final Grade it; final int number; final List<Integer> traced;
        AnyGrade(Grade it, int number, List<Integer> traced) { this.it = it; this.number = number; this.traced = traced; }
        public Grade it() { return it; }
        public int number() { return number; }
        public List<Integer> traced() { return traced; }
    }

    private static class Plain extends AnyGrade {
        Plain(Grade it, int number, List<Integer> traced) { super(it, number, traced); }
        @Override public int size() { traced.add(11); return super.size() + mark(); }
        @Override public int mark() { traced.add(21); return super.mark() + it.heft; }
    }

    private static class Hard extends Plain {
        Hard(Grade it, int number, List<Integer> traced) { super(it, number, traced); }
        @Override public int size() { traced.add(12); return 0 - super.size(); }
        @Override public int mark() { traced.add(24); return super.mark() * 2; }
    }

    private static class Brittle extends Plain {
        Brittle(Grade it, int number, List<Integer> traced) { super(it, number, traced); }
        @Override public int mark() { traced.add(22); return super.mark() - 1000; }
    }

    private static class Thick extends AnyGrade {
        Thick(Grade it, int number, List<Integer> traced) { super(it, number, traced); }
        @Override public int size() { traced.add(13); return super.size() - 100; }
        @Override public int mark() { traced.add(23); return super.mark() - size(); }
    }

    private static class Lined extends Thick {
        Lined(Grade it, int number, List<Integer> traced) { super(it, number, traced); }
        @Override public int size() { traced.add(14); return super.size() * 2; }
    }

    int ask(int one, int what) {
        if (noGrade(one) || what < 0 || what > 1) return BAD;
        trace = new ArrayList<>();
        Grade g = hole.grades.get(one);
        Asked a = switch (g.sort) {
            case 'p' -> new Plain(g, one, trace);
            case 'h' -> new Hard(g, one, trace);
            case 'b' -> new Brittle(g, one, trace);
            case 't' -> new Thick(g, one, trace);
            default -> new Lined(g, one, trace);
        };
        return what == 0 ? a.size() : a.mark();
    }

    int trace(int i) { return i < 0 || i >= Math.min(16, trace.size()) ? NONE : trace.get(i); }

    int count(int what) {
        if (what < 0 || what > 6) return BAD;
        if (what == 0) {
            int n = 0;
            for (Object r : rows) if (r != null) n++;
            return n;
        }
        if (what == 5) return before.size();
        if (what == 6) return tape.length();
        if (hole == null) return 0;
        if (what == 1) return hole.grades.size();
        if (what == 2) return hole.steps;
        if (what == 4) return hole.sections().size();
        int n = 0;
        for (int g : hole.laid) if (g >= 0) n++;
        return n;
    }

    int status() { return status; }
}
