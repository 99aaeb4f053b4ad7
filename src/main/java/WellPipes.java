import java.util.Arrays;

/** Pipes for a well: grades of pipe, what loads each step, and which string is best. */
public final class WellPipes {
    public static final int NONE = -1000000, BAD = -1000001, STATE = -1000002, FULL = -1000003;

    private static final int FINDINGS = -1000010, FAULTS = -1000100;
    private static final int NULL = 1, PLACE = 2, KIND = 3, SIZE = 4, STORE = 5;

    private static final int MOST_ROWS = 8, MOST_ITEMS = 40, LANES = 3, MISSING = -1;
    private static final int MOST_BYTES = 130, MOST_ACTS = 24, MOST_IMAGES = 2, MOST_TRACE = 16;
    private static final int MOST_STEPS = 8, MOST_GRADES = 5, BARE = -1;

    private static final int MUD = 0, TOP = 1, FALL = 2, LEAST = 3, RULES = 4;
    private static final int[] RULE_LOW = {0, 0, 0, 1};
    private static final int[] RULE_HIGH = {20, 99, 20, 3};

    private static final int BURST = 0, CRUSH = 1, PULL = 2, HEFT = 3, PRICE = 4, FIGURES = 5;
    private static final int[] FIGURE_HIGH = {99, 99, 99, 9, 99};

    private static final int PLAIN = 1, HARD = 2, BRITTLE = 3, THICK = 4, LINED = 5;
    /** By KIND: the KIND that it is, too. */
    private static final int[] WIDER_KIND = {0, 0, PLAIN, PLAIN, 0, THICK};

    private static final int MOST_MUD = 40, MOST_TOP = 99, MOST_PRICE = 792, MOST_SHARE = 999;
    private static final int MOST_TURNS = 4, MOST_DRAWS = 60, MOST_SEED = 999999;

    private final Row[] rows = new Row[MOST_ROWS];
    private final Reader reader = new Reader();
    private final Well now = new Well();
    private final Well supposed = new Well();
    private final Well[] images = new Well[MOST_IMAGES];
    private final Search search = new Search();
    private final Acts acts = new Acts();
    private final Asks asks = new Asks();
    private int finding;

    public WellPipes() {
        for (int i = 0; i < MOST_ROWS; i++) {
            rows[i] = new Row();
        }
        for (int i = 0; i < MOST_IMAGES; i++) {
            images[i] = new Well();
        }
    }

    // ---- rows

    public int row(int row, int lane, int n) {
        if (!isRow(row) || lane < 0 || lane >= LANES || n > MOST_ITEMS) {
            return BAD;
        }
        if (n < 0) {
            return found(SIZE);
        }
        rows[row].begin(lane, n);
        return passed(n);
    }

    public int set(int row, int i, int v) {
        if (!isRow(row)) {
            return BAD;
        }
        Row at = rows[row];
        if (at.isMissing()) {
            return found(NULL);
        }
        if (!at.hasPlaces(i, 1)) {
            return found(PLACE);
        }
        return passed(at.put(i, v));
    }

    public int copy(int a, int i, int b, int j, int n) {
        if (!isRow(a) || !isRow(b)) {
            return BAD;
        }
        Row from = rows[a];
        Row to = rows[b];
        if (from.isMissing() || to.isMissing()) {
            return found(NULL);
        }
        if (from.lane != to.lane) {
            return found(STORE);
        }
        if (!from.hasPlaces(i, n) || !to.hasPlaces(j, n)) {
            return found(PLACE);
        }
        System.arraycopy(from.items, i, to.items, j, n);
        return passed(n);
    }

    public int drop(int row) {
        if (!isRow(row)) {
            return BAD;
        }
        Row at = rows[row];
        if (at.isMissing()) {
            return found(NULL);
        }
        int had = at.size;
        at.size = MISSING;
        return passed(had);
    }

    // ---- what is told

    public int feed(int letter) {
        if (letter < 0 || letter > 255) {
            return BAD;
        }
        return reader.take(letter) ? reader.length : FULL;
    }

    public int well() {
        if (!reader.read(supposed)) {
            return FAULTS - reader.faultPlace;
        }
        now.becomes(supposed);
        acts.forgetAll();
        return now.grades;
    }

    public int fault() {
        return reader.latestFault;
    }

    public int undo() {
        if (acts.kept == 0) {
            return STATE;
        }
        acts.takeBack(now);
        return acts.kept;
    }

    // ---- what is done

    public int lay(int step, int grade) {
        if (!isStep(step) || (grade != BARE && !isGrade(grade))) {
            return BAD;
        }
        int was = now.laid[step];
        if (was == grade) {
            return STATE;
        }
        acts.keep(Acts.STRING, now.stringCode());
        now.laid[step] = grade;
        return was;
    }

    public int layBest() {
        if (hasNoWell()) {
            return STATE;
        }
        if (!search.find(now, NONE)) {
            return NONE;
        }
        acts.keep(Acts.STRING, now.stringCode());
        System.arraycopy(search.string, 0, now.laid, 0, MOST_STEPS);
        return search.cost;
    }

    public int rule(int which, int v) {
        if (hasNoWell()) {
            return STATE;
        }
        if (which < 0 || which >= RULES || v < RULE_LOW[which] || v > RULE_HIGH[which]) {
            return BAD;
        }
        int was = now.rules[which];
        acts.keep(which, was);
        now.rules[which] = v;
        return was;
    }

    public int price(int grade, int v) {
        if (!isGrade(grade) || v < 1 || v > FIGURE_HIGH[PRICE]) {
            return BAD;
        }
        int was = now.figure(grade, PRICE);
        acts.keep(Acts.PRICES + grade, was);
        now.putFigure(grade, PRICE, v);
        return was;
    }

    public int grade(int grade, int what) {
        if (!isGrade(grade) || what < 0 || what >= FIGURES) {
            return BAD;
        }
        return now.figure(grade, what);
    }

    public int step(int step, int what) {
        if (!isStep(step)) {
            return BAD;
        }
        switch (what) {
            case 0: return now.laid[step];
            case 1: return now.burstLoad(step);
            case 2: return now.crushLoad(step);
            case 3: return now.pullLoad(step);
            case 4: return now.holds(step) ? 1 : 0;
            case 5: return now.sectionLength(step);
            default: return BAD;
        }
    }

    public int bears(int step, int what) {
        if (!isStep(step) || what < BURST || what > PULL) {
            return BAD;
        }
        int grade = now.laid[step];
        if (grade == BARE) {
            return STATE;
        }
        switch (what) {
            case BURST: return now.burstBorne(grade);
            case CRUSH: return now.crushBorne(grade, now.pullLoad(step));
            default: return now.pullBorne(grade);
        }
    }

    public int stand(int what) {
        if (hasNoWell()) {
            return STATE;
        }
        switch (what) {
            case 0: return now.steps;
            case 1: return now.rules[LEAST];
            case 2: return now.rules[MUD];
            case 3: return now.rules[TOP];
            case 4: return now.rules[FALL];
            case 5: return now.sumOfLaid(PRICE);
            case 6: return now.sumOfLaid(HEFT);
            case 7: return now.firstThatFails();
            case 8: return now.isSound() ? 1 : 0;
            default: return BAD;
        }
    }

    // ---- foretold

    public int best(int what) {
        if (hasNoWell()) {
            return STATE;
        }
        if (what != 0 && what != 1 && (what < 10 || what - 10 >= now.steps)) {
            return BAD;
        }
        if (!search.find(now, NONE)) {
            return NONE;
        }
        switch (what) {
            case 0: return search.cost;
            case 1: return search.heft;
            default: return search.string[what - 10];
        }
    }

    public int without(int grade) {
        if (!isGrade(grade)) {
            return BAD;
        }
        return search.find(now, grade) ? search.cost : NONE;
    }

    public int most(int what) {
        if (hasNoWell()) {
            return STATE;
        }
        if (what != MUD && what != TOP) {
            return BAD;
        }
        supposed.becomes(now);
        for (int v = what == MUD ? MOST_MUD : MOST_TOP; v >= 0; v--) {
            supposed.rules[what] = v;
            if (supposed.firstThatFails() == NONE) {
                return v;
            }
        }
        return NONE;
    }

    public int need(int step) {
        if (!isStep(step)) {
            return BAD;
        }
        supposed.becomes(now);
        int set = 0;
        for (int grade = 0; grade < now.grades; grade++) {
            supposed.laid[step] = grade;
            if (supposed.holds(step)) {
                set |= 1 << grade;
            }
        }
        return set;
    }

    public int sets(int v, int what) {
        if (hasNoWell()) {
            return STATE;
        }
        if (v < 0 || v > MOST_PRICE || what < 0 || what > 2) {
            return BAD;
        }
        int many = 0;
        int inAll = -1;
        int inAny = 0;
        for (int set = 0; set < 1 << now.steps; set++) {
            if (now.priceOf(set) == v) {
                many++;
                inAll &= set;
                inAny |= set;
            }
        }
        switch (what) {
            case 0: return many;
            case 1: return many == 0 ? 0 : inAll;
            default: return inAny;
        }
    }

    public int share(int step, int n) {
        if (!isStep(step) || n < 0 || n > MOST_SHARE) {
            return BAD;
        }
        int all = now.sumOfLaid(HEFT);
        if (all == 0 || now.laid[step] == BARE) {
            return 0;
        }
        int over = n;
        int notBareAbove = 0;
        for (int s = 0; s < now.steps; s++) {
            over -= n * now.laidFigure(s, HEFT) / all;
            if (s < step && now.laid[s] != BARE) {
                notBareAbove++;
            }
        }
        return n * now.laidFigure(step, HEFT) / all + (notBareAbove < over ? 1 : 0);
    }

    public int byTurns(int n) {
        if (hasNoWell()) {
            return STATE;
        }
        if (n < 0 || n > MOST_TURNS || n > now.steps) {
            return BAD;
        }
        return costByTurns(now, n, now.steps - 1, 0, true);
    }

    public int who(int grade, int which, int row, int i) {
        if (!isGrade(grade) || which < 0 || which > 1 || !isRow(row)) {
            return BAD;
        }
        Row told = rows[row];
        if (told.isMissing()) {
            return found(NULL);
        }
        if (!told.hasPlaces(i, now.steps)) {
            return found(PLACE);
        }
        supposed.becomes(now);
        int set = 0;
        for (int v = 1; v <= (which == 0 ? LINED : RULE_HIGH[LEAST]); v++) {
            if (which == 0) {
                supposed.kinds[grade] = v;
            } else {
                supposed.rules[LEAST] = v;
            }
            if (isBest(supposed, told, i)) {
                set |= 1 << v;
            }
        }
        return passed(set);
    }

    public long flaws(int p, int what) {
        if (hasNoWell()) {
            return STATE;
        }
        if (p < 0 || p > 10 || what < 0 || what > 1) {
            return BAD;
        }
        long above = now.firstThatFails() == NONE ? 1 : 0;
        long below = 1;
        for (int step = 0; step < now.steps; step++) {
            if (above != 0 && !now.holdsFlawed(step)) {
                above *= 10 - p;
                below *= 10;
            }
        }
        long divisor = Math.max(1, greatestDivisor(above, below));
        return (what == 0 ? above : below) / divisor;
    }

    public int drawn(int n, int seed, int what) {
        if (hasNoWell()) {
            return STATE;
        }
        if (n < 0 || n > MOST_DRAWS || seed < 1 || seed > MOST_SEED || what < 0 || what > 1) {
            return BAD;
        }
        supposed.becomes(now);
        int x = seed;
        int held = 0;
        for (int i = 0; i < n; i++) {
            x = (int) (x * 16807L % 2147483647L);
            supposed.changeByDraw(x);
            held += supposed.howManyHold();
        }
        return what == 0 ? held : supposed.sumOfLaid(PRICE);
    }

    public int image(int k) {
        if (k < 0 || k >= MOST_IMAGES) {
            return BAD;
        }
        if (hasNoWell()) {
            return STATE;
        }
        images[k].becomes(now);
        return 1;
    }

    public int restore(int k) {
        if (k < 0 || k >= MOST_IMAGES) {
            return BAD;
        }
        if (images[k].steps == 0) {
            return STATE;
        }
        now.becomes(images[k]);
        acts.forgetAll();
        return 1;
    }

    // ---- asked

    public int kind(int one) {
        return isGrade(one) ? now.kinds[one] : BAD;
    }

    public int as(int one, int kind) {
        if (!isGrade(one) || kind < 0 || kind > LINED) {
            return BAD;
        }
        // No KIND is more than two below GRADE, so its own, the wider one and GRADE are all it is.
        int own = now.kinds[one];
        if (kind != 0 && kind != own && kind != WIDER_KIND[own]) {
            return found(KIND);
        }
        return passed(one);
    }

    public int ask(int one, int what) {
        if (!isGrade(one) || what < 0 || what > 1) {
            return BAD;
        }
        return asks.answer(now, one, what);
    }

    public int trace(int i) {
        return i >= 0 && i < asks.left ? asks.bodies[i] : NONE;
    }

    public int count(int what) {
        switch (what) {
            case 0: return howManyRows();
            case 1: return now.grades;
            case 2: return now.steps;
            case 3: return now.howManyLaid();
            case 4: return now.howManySections();
            case 5: return acts.kept;
            case 6: return reader.length;
            default: return BAD;
        }
    }

    public int status() {
        return finding;
    }

    // ---- within

    private int found(int number) {
        finding = number;
        return FINDINGS - number;
    }

    private int passed(int answer) {
        finding = 0;
        return answer;
    }

    private static boolean isRow(int row) {
        return row >= 0 && row < MOST_ROWS;
    }

    private boolean isStep(int step) {
        return step >= 0 && step < now.steps;
    }

    private boolean isGrade(int grade) {
        return grade >= 0 && grade < now.grades;
    }

    private boolean hasNoWell() {
        return now.steps == 0;
    }

    private int howManyRows() {
        int many = 0;
        for (int i = 0; i < MOST_ROWS; i++) {
            if (!rows[i].isMissing()) {
                many++;
            }
        }
        return many;
    }

    private boolean isBest(Well well, Row told, int from) {
        if (!search.find(well, NONE)) {
            return false;
        }
        for (int step = 0; step < well.steps; step++) {
            if (told.items[from + step] != search.string[step]) {
                return false;
            }
        }
        return true;
    }

    /** What comes of turns at so many STEPS more, from this one up, at which all below pulls so much. */
    private static int costByTurns(Well well, int turns, int step, int below, boolean buyer) {
        if (turns < 1 || step < 0) {
            return 0;
        }
        int chosen = NONE;
        for (int grade = 0; grade < well.grades; grade++) {
            int pull = below + well.figure(grade, HEFT);
            if (well.wouldHold(step, grade, pull)) {
                int cost = well.figure(grade, PRICE) + costByTurns(well, turns - 1, step - 1, pull, !buyer);
                if (chosen == NONE || (buyer ? cost < chosen : cost > chosen)) {
                    chosen = cost;
                }
            }
        }
        return chosen == NONE ? 0 : chosen;
    }

    private static long greatestDivisor(long a, long b) {
        long divisor = b;
        long rest = a;
        // Each two rounds halve what is left, so 64 bits need fewer than 128.
        for (int i = 0; i < 128 && rest != 0; i++) {
            long next = divisor % rest;
            divisor = rest;
            rest = next;
        }
        return divisor;
    }

    /** A ROW; it is kept, with room for all ITEMS, while it is missing. */
    private static final class Row {
        final int[] items = new int[MOST_ITEMS];
        int lane;
        int size = MISSING;

        boolean isMissing() {
            return size == MISSING;
        }

        void begin(int newLane, int newSize) {
            lane = newLane;
            size = newSize;
            Arrays.fill(items, 0);
        }

        boolean hasPlaces(int from, int n) {
            return from >= 0 && n >= 0 && from <= size - n;
        }

        int put(int i, int v) {
            switch (lane) {
                case 0: items[i] = (byte) v; break;
                case 1: items[i] = (short) v; break;
                default: items[i] = v;
            }
            return items[i];
        }
    }

    /** A WELL with what is laid in it; one without STEPS is none. */
    private static final class Well {
        int steps;
        int grades;
        final int[] rules = new int[RULES];
        final int[] kinds = new int[MOST_GRADES];
        final int[] figures = new int[MOST_GRADES * FIGURES];
        final int[] laid = new int[MOST_STEPS];

        void becomes(Well other) {
            steps = other.steps;
            grades = other.grades;
            System.arraycopy(other.rules, 0, rules, 0, RULES);
            System.arraycopy(other.kinds, 0, kinds, 0, MOST_GRADES);
            System.arraycopy(other.figures, 0, figures, 0, MOST_GRADES * FIGURES);
            System.arraycopy(other.laid, 0, laid, 0, MOST_STEPS);
        }

        int figure(int grade, int what) {
            return figures[grade * FIGURES + what];
        }

        void putFigure(int grade, int what, int v) {
            figures[grade * FIGURES + what] = v;
        }

        int laidFigure(int step, int what) {
            return laid[step] == BARE ? 0 : figure(laid[step], what);
        }

        int sumOfLaid(int what) {
            int sum = 0;
            for (int step = 0; step < steps; step++) {
                sum += laidFigure(step, what);
            }
            return sum;
        }

        int howManyLaid() {
            int many = 0;
            for (int step = 0; step < steps; step++) {
                if (laid[step] != BARE) {
                    many++;
                }
            }
            return many;
        }

        int burstLoad(int step) {
            return Math.max(0, rules[TOP] - rules[FALL] * step);
        }

        int crushLoad(int step) {
            return rules[MUD] * (step + 1);
        }

        int pullLoad(int step) {
            if (laid[step] == BARE) {
                return 0;
            }
            int pull = 0;
            for (int s = step; s < steps; s++) {
                pull += laidFigure(s, HEFT);
            }
            return pull;
        }

        int burstBorne(int grade) {
            int burst = figure(grade, BURST);
            return kinds[grade] == LINED ? burst + 10 : burst;
        }

        int pullBorne(int grade) {
            int pull = figure(grade, PULL);
            return kinds[grade] == BRITTLE ? (pull + 1) / 2 : pull;
        }

        int crushBorne(int grade, int pull) {
            int crush = figure(grade, CRUSH);
            if (kinds[grade] == THICK || kinds[grade] == LINED) {
                return crush;
            }
            int dent = dent(pull, pullBorne(grade));
            return crush * (10 - (kinds[grade] == HARD ? dent / 2 : dent)) / 10;
        }

        private static int dent(int pull, int borne) {
            return borne < 1 ? 10 : Math.min(10, 10 * pull / borne);
        }

        boolean wouldHold(int step, int grade, int pull) {
            return burstBorne(grade) >= burstLoad(step)
                && pullBorne(grade) >= pull
                && crushBorne(grade, pull) >= crushLoad(step);
        }

        boolean holds(int step) {
            return laid[step] != BARE && wouldHold(step, laid[step], pullLoad(step));
        }

        boolean holdsFlawed(int step) {
            return holds(step) && burstBorne(laid[step]) / 2 >= burstLoad(step);
        }

        int howManyHold() {
            int many = 0;
            for (int step = 0; step < steps; step++) {
                if (holds(step)) {
                    many++;
                }
            }
            return many;
        }

        int firstThatFails() {
            for (int step = 0; step < steps; step++) {
                if (!holds(step)) {
                    return step;
                }
            }
            return NONE;
        }

        boolean isSound() {
            if (firstThatFails() != NONE) {
                return false;
            }
            for (int step = 0; step < steps; step++) {
                if (sectionLength(step) < rules[LEAST]) {
                    return false;
                }
            }
            return true;
        }

        int sectionLength(int step) {
            if (laid[step] == BARE) {
                return 0;
            }
            int first = step;
            while (first > 0 && laid[first - 1] == laid[step]) {
                first--;
            }
            int end = step + 1;
            while (end < steps && laid[end] == laid[step]) {
                end++;
            }
            return end - first;
        }

        int howManySections() {
            int many = 0;
            for (int step = 0; step < steps; step++) {
                if (laid[step] != BARE && (step == 0 || laid[step - 1] != laid[step])) {
                    many++;
                }
            }
            return many;
        }

        /** PRICE of a set of STEPS; NONE, if one of them is bare. */
        int priceOf(int set) {
            int price = 0;
            for (int step = 0; step < steps; step++) {
                if ((set >> step & 1) == 1) {
                    if (laid[step] == BARE) {
                        return NONE;
                    }
                    price += figure(laid[step], PRICE);
                }
            }
            return price;
        }

        void changeByDraw(int x) {
            if (steps < 1 || grades < 1) {
                return;
            }
            laid[x % steps] = x / 16 % grades;
            if (x % 5 == 0) {
                rules[MUD] = x / 256 % 21;
            }
        }

        /** All that is laid as one number: a figure of base 6 for each STEP, 0 for a bare one. */
        int stringCode() {
            int code = 0;
            for (int step = MOST_STEPS - 1; step >= 0; step--) {
                code = code * (MOST_GRADES + 1) + laid[step] + 1;
            }
            return code;
        }

        void layString(int code) {
            int rest = code;
            for (int step = 0; step < MOST_STEPS; step++) {
                laid[step] = rest % (MOST_GRADES + 1) - 1;
                rest /= MOST_GRADES + 1;
            }
        }
    }

    /** THE TAPE, and how it is read. */
    private static final class Reader {
        private final int[] bytes = new int[MOST_BYTES];
        int length;
        int faultPlace;
        int latestFault;
        private int at;
        private boolean failed;

        boolean take(int letter) {
            if (length >= MOST_BYTES) {
                return false;
            }
            bytes[length] = letter;
            length++;
            return true;
        }

        /** Reads the tape into a WELL, of which nothing is sure if it answers false. */
        boolean read(Well into) {
            at = 0;
            failed = false;
            readLaw(into);
            readGas(into);
            into.grades = 0;
            for (int grade = 0; grade <= MOST_GRADES && !failed && (grade == 0 || at < length); grade++) {
                readGrade(into, grade);
            }
            Arrays.fill(into.laid, BARE);
            length = 0;
            return !failed;
        }

        private void readLaw(Well into) {
            readSign('w');
            into.steps = readNumber(2, MOST_STEPS);
            readSign(',');
            into.rules[LEAST] = readRule(LEAST);
            readSign(',');
            into.rules[MUD] = readRule(MUD);
            readSign(';');
        }

        private void readGas(Well into) {
            readSign('g');
            into.rules[TOP] = readRule(TOP);
            readSign(',');
            into.rules[FALL] = readRule(FALL);
            readSign(';');
        }

        private void readGrade(Well into, int grade) {
            int kind = kindAtHand();
            if (kind == 0) {
                fail(1);
            } else if (grade >= MOST_GRADES) {
                fail(3);
            }
            if (failed) {
                return;
            }
            into.kinds[grade] = kind;
            into.grades = grade + 1;
            at++;
            for (int what = 0; what < FIGURES; what++) {
                into.putFigure(grade, what, readNumber(1, FIGURE_HIGH[what]));
                readSign(what == FIGURES - 1 ? ';' : ',');
            }
        }

        private int kindAtHand() {
            switch (at < length ? bytes[at] : 0) {
                case 'p': return PLAIN;
                case 'h': return HARD;
                case 'b': return BRITTLE;
                case 't': return THICK;
                case 'l': return LINED;
                default: return 0;
            }
        }

        private void readSign(char sign) {
            if (at >= length || bytes[at] != sign) {
                fail(1);
            } else {
                at++;
            }
        }

        private int readRule(int which) {
            return readNumber(RULE_LOW[which], RULE_HIGH[which]);
        }

        private int readNumber(int low, int high) {
            int end = at;
            int number = 0;
            while (end < length && bytes[end] >= '0' && bytes[end] <= '9' && end < at + 3) {
                number = number * 10 + bytes[end] - '0';
                end++;
            }
            if (end == at || end == at + 3) {
                fail(1);
            } else if (number < low || number > high) {
                fail(2);
            } else if (!failed) {
                at = end;
            }
            return number;
        }

        /** Keeps the first FAULT only: what is read behind it is no more than words passed over. */
        private void fail(int fault) {
            if (!failed) {
                failed = true;
                faultPlace = at;
                latestFault = fault;
            }
        }
    }

    /** ACTS that can be undone, the oldest first: what each changed, and what that was. */
    private static final class Acts {
        /** What is changed: a rule by its number, PRICE of a GRADE, or what is laid. */
        static final int PRICES = RULES, STRING = PRICES + MOST_GRADES;

        private final int[] whats = new int[MOST_ACTS];
        private final int[] befores = new int[MOST_ACTS];
        int kept;

        void keep(int what, int before) {
            if (kept >= MOST_ACTS) {
                System.arraycopy(whats, 1, whats, 0, MOST_ACTS - 1);
                System.arraycopy(befores, 1, befores, 0, MOST_ACTS - 1);
                kept = MOST_ACTS - 1;
            }
            whats[kept] = what;
            befores[kept] = before;
            kept++;
        }

        void takeBack(Well well) {
            if (kept < 1) {
                return;
            }
            kept--;
            int what = whats[kept];
            if (what == STRING) {
                well.layString(befores[kept]);
            } else if (what >= PRICES) {
                well.putFigure(what - PRICES, PRICE, befores[kept]);
            } else {
                well.rules[what] = befores[kept];
            }
        }

        void forgetAll() {
            kept = 0;
        }
    }

    /**
     * Finds BEST from the lowest STEP up. What a STEP must bear hangs on nothing but the HEFT below it,
     * so of all strings laid up to a STEP only the first of each HEFT, GRADE and length of the SECTION
     * on top (LEAST stands for all that is longer) can be part of BEST.
     */
    private static final class Search {
        private static final int STRINGS = 390625, MOST_LEAST = 3, MOST_HEFT = 9, NO_STRING = -1;
        private static final int HEFTS = MOST_STEPS * MOST_HEFT + 1;

        final int[] string = new int[MOST_STEPS];
        int cost;
        int heft;
        /** By state: COST times STRINGS, and the GRADES from the lowest STEP up as figures of base 5. */
        private int[] below = new int[HEFTS * MOST_GRADES * MOST_LEAST];
        private int[] above = new int[HEFTS * MOST_GRADES * MOST_LEAST];
        /** By HEFT: the first of those whose SECTION on top is long enough. */
        private int[] wholeBelow = new int[HEFTS];
        private int[] wholeAbove = new int[HEFTS];
        private Well well;
        private int least;

        /** Whether there is a BEST in which a GRADE is not (NONE: any may be). */
        boolean find(Well in, int barred) {
            well = in;
            least = Math.max(1, Math.min(MOST_LEAST, in.rules[LEAST]));
            Arrays.fill(above, NO_STRING);
            Arrays.fill(wholeAbove, NO_STRING);
            wholeAbove[0] = 0;
            for (int step = in.steps - 1; step >= 0; step--) {
                swap();
                for (int grade = 0; grade < in.grades; grade++) {
                    if (grade != barred) {
                        layOnAll(step, grade);
                    }
                }
            }
            return choose();
        }

        private void swap() {
            int[] done = below;
            below = above;
            above = done;
            Arrays.fill(above, NO_STRING);
            done = wholeBelow;
            wholeBelow = wholeAbove;
            wholeAbove = done;
            Arrays.fill(wholeAbove, NO_STRING);
        }

        private void layOnAll(int step, int grade) {
            int laid = well.steps - 1 - step;
            int own = well.figure(grade, HEFT);
            for (int under = laid; under <= laid * MOST_HEFT; under++) {
                if (!well.wouldHold(step, grade, under + own)) {
                    // A GRADE bears no more at a greater PULL.
                    break;
                }
                // That the whole SECTION may be of the same GRADE does no harm: the string is SOUND, too.
                layOn(wholeBelow[under], under, grade, 1);
                for (int length = 1; length <= least; length++) {
                    layOn(below[state(under, grade, length)], under, grade, Math.min(length + 1, least));
                }
            }
        }

        private void layOn(int value, int under, int grade, int length) {
            if (value == NO_STRING) {
                return;
            }
            int pull = under + well.figure(grade, HEFT);
            int code = value % STRINGS;
            int next = value - code + well.figure(grade, PRICE) * STRINGS + code * MOST_GRADES + grade;
            int state = state(pull, grade, length);
            if (isAhead(next, above[state])) {
                above[state] = next;
            }
            if (length == least && isAhead(next, wholeAbove[pull])) {
                wholeAbove[pull] = next;
            }
        }

        private static boolean isAhead(int value, int other) {
            return other == NO_STRING || value < other;
        }

        private static int state(int pull, int grade, int length) {
            return (pull * MOST_GRADES + grade) * MOST_LEAST + length - 1;
        }

        private boolean choose() {
            int chosen = NO_STRING;
            for (int pull = 1; pull < HEFTS; pull++) {
                int value = wholeAbove[pull];
                if (value != NO_STRING && (chosen == NO_STRING || value / STRINGS < chosen / STRINGS)) {
                    chosen = value;
                    heft = pull;
                }
            }
            if (chosen == NO_STRING) {
                return false;
            }
            cost = chosen / STRINGS;
            tellString(chosen % STRINGS);
            return true;
        }

        /** The GRADE laid last, at the top STEP, is the lowest figure. */
        private void tellString(int code) {
            int rest = code;
            Arrays.fill(string, BARE);
            for (int step = 0; step < well.steps; step++) {
                string[step] = rest % MOST_GRADES;
                rest /= MOST_GRADES;
            }
        }
    }

    /** ASKS of GRADES, and THE TRACE that their BODIES leave. */
    private static final class Asks {
        private static final int SIZE_ASK = 0, MARK_ASK = 1, DEEPEST = 16;
        /** By KIND: the BODY told for it, or else for the nearest KIND that it is, too. */
        private static final int[] SIZE_BODIES = {10, 11, 12, 11, 13, 14};
        private static final int[] MARK_BODIES = {20, 21, 24, 22, 23, 23};

        final int[] bodies = new int[MOST_TRACE];
        int left;
        private Well well;
        private int one;

        int answer(Well in, int grade, int what) {
            well = in;
            one = grade;
            left = 0;
            return begin(bodyFor(what), 0);
        }

        private int bodyFor(int what) {
            int kind = well.kinds[one];
            return what == SIZE_ASK ? SIZE_BODIES[kind] : MARK_BODIES[kind];
        }

        private int begin(int body, int depth) {
            if (depth > DEEPEST) {
                return 0;
            }
            if (left < MOST_TRACE) {
                bodies[left] = body;
                left++;
            }
            int next = depth + 1;
            switch (body) {
                case 10: return well.figure(one, PRICE);
                case 11: return begin(10, next) + begin(bodyFor(MARK_ASK), next);
                case 12: return -begin(11, next);
                case 13: return begin(10, next) - 100;
                case 14: return begin(13, next) * 2;
                case 20: return one;
                case 21: return begin(20, next) + well.figure(one, HEFT);
                case 22: return begin(21, next) - 1000;
                case 23: return begin(20, next) - begin(bodyFor(SIZE_ASK), next);
                case 24: return begin(21, next) * 2;
                default: return 0;
            }
        }
    }
}
