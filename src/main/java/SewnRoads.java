import java.util.Arrays;

/**
 * Roads that are sewn each spring and come apart, as ../shared/DOC.md promises them.
 *
 * <p>All rows are made in the constructor and used again: no call makes an object.
 */
public final class SewnRoads {
    public static final int NONE = -1;

    private static final int NOT = -2;

    private static final int MAX_BYTES = 2000;
    private static final int MAX_TOKENS = 400;
    private static final int MAX_TOWNS = 7;
    private static final int MAX_SEAMS = 10;
    private static final int MAX_WOMEN = 3;
    private static final int MAX_CARTS = 4;
    private static final int MAX_IFS = 4;
    private static final int MAX_PARENS = 6;
    private static final int MOST_SEWN = 99;
    private static final int MOST_THREAD = 9999;
    private static final int MOST_WEEKS = 60;
    private static final int MOST_SOON = 40;
    private static final int MOST_HOLDS = 200;
    private static final int MOST_SEEDS = 20;
    private static final int MOST_WAY = 999;
    private static final int MAX_TOLD = 20;
    private static final int MAX_UNDO = 40;
    private static final int SLOTS = 3;

    private static final int SYNTAX = 1;
    private static final int ROOM = 2;
    private static final int TWICE = 3;
    private static final int NAME_FAULT = 4;
    private static final int WRONG = 5;

    // A sign's kind is its own byte; the others stand clear of the bytes that signs have.
    private static final String SIGNS = ";=+-*/<()";
    private static final int END = 0;
    private static final int BAD = 1;
    private static final int NAME = 2;
    private static final int INT = 3;
    // A word's kind is FIRST_WORD and its number in WORDS.
    private static final int FIRST_WORD = 256;
    private static final String WORDS =
        "town seam woman cart costs wears puckers toll thread frost seed if then else length sewn week frosty carted which load new ways ";
    private static final int WORD_COUNT = 23;
    private static final int TOWN = 256;
    private static final int SEAM = 257;
    private static final int WOMAN = 258;
    private static final int CART = 259;
    private static final int FIRST_LAW = 260;
    private static final int LAST_LAW = 263;
    private static final int THREAD = 264;
    private static final int FROST = 265;
    private static final int SEED = 266;
    private static final int IF = 267;
    private static final int THEN = 268;
    private static final int ELSE = 269;
    private static final int FIRST_VAR = 270;
    private static final int LAST_VAR = 278;

    private static final int LAWS = 4;
    private static final int COSTS = 0;
    private static final int WEARS = 1;
    private static final int PUCKERS = 2;
    private static final int TOLL = 3;

    private static final int VARS = 9;
    private static final int LENGTH = 0;
    private static final int SEWN = 1;
    private static final int WEEK = 2;
    private static final int FROSTY = 3;
    private static final int CARTED = 4;
    private static final int WHICH = 5;
    private static final int LOAD = 6;
    private static final int NEW = 7;
    private static final int WAYS = 8;

    // What is kept of a cart in a state, in the order in which cart() tells it from 3 on.
    private static final int CART_FIELDS = 5;
    private static final int AT = 0;
    private static final int ON_ROAD = 1;
    private static final int PAID = 2;
    private static final int STRANDED = 3;
    private static final int CAME = 4;

    private final Tape tape = new Tape();
    private final Reader reader = new Reader();
    private final Plan plan = new Plan();
    private final State now = new State();
    private final State later = new State();
    private final Past past = new Past();
    private final State[] slots = new State[SLOTS];
    private final boolean[] held = new boolean[SLOTS];
    private final Rules rules = new Rules(plan);
    private final Net net = new Net(plan);
    private final Season season = new Season(plan, rules, net);
    private final Search search = new Search(plan, net);
    private int faultPlace = NONE;

    public SewnRoads() {
        for (int i = 0; i < SLOTS; i++) {
            slots[i] = new State();
        }
        now.begin(plan);
    }

    public int feed(int a, int b, int c, int d, int e) {
        if (!tape.hasRoomFor(20)) {
            return NONE;
        }
        tape.append(a);
        tape.append(b);
        tape.append(c);
        tape.append(d);
        tape.append(e);
        return tape.length;
    }

    public int back(int n) {
        if (n < 0 || n > tape.length) {
            return NONE;
        }
        tape.length -= n;
        return tape.length;
    }

    public int read() {
        int fault = reader.readText(tape);
        faultPlace = reader.faultPlace;
        tape.length = 0;
        if (fault == 0) {
            plan.copyFrom(reader.draft);
            now.begin(plan);
            past.clear();
            search.clear();
            emptySlots();
        }
        return fault;
    }

    public int place() {
        return faultPlace;
    }

    public int seam(int seam, int what) {
        if (!isSeam(seam)) {
            return NONE;
        }
        int sewn = now.sewn[seam];
        switch (what) {
            case 0: return plan.first[seam];
            case 1: return plan.second[seam];
            case 2: return plan.length[seam];
            case 3: return sewn;
            case 4: return rules.stitchCost(seam, sewn, now.week);
            case 5: return rules.wear(seam, sewn, now.week, 0, 0);
            case 6: return rules.wayLong(seam, sewn, now.week);
            default: return NONE;
        }
    }

    public int cart(int cart, int what) {
        if (!isCart(cart)) {
            return NONE;
        }
        switch (what) {
            case 0: return plan.from[cart];
            case 1: return plan.to[cart];
            case 2: return plan.load[cart];
            default:
                return within(what, 3, 7) ? now.cartField(cart, what - 3) : NONE;
        }
    }

    public int toll(int seam, int load) {
        if (!isSeam(seam) || !within(load, 0, 99)) {
            return NONE;
        }
        return rules.tollFor(seam, now.sewn[seam], now.week, load);
    }

    public int sew(int seam, int n) {
        if (!isSeam(seam) || !within(n, 1, 99)) {
            return NONE;
        }
        if (!rules.canStitch(seam, now)) {
            return NOT;
        }
        past.keep(now);
        int made = 0;
        while (made < n && rules.canStitch(seam, now)) {
            now.thread -= rules.stitchCost(seam, now.sewn[seam], now.week);
            now.sewn[seam]++;
            made++;
        }
        return made;
    }

    public int cut(int seam) {
        if (!isSeam(seam)) {
            return NONE;
        }
        int sewn = now.sewn[seam];
        if (sewn == 0) {
            return NOT;
        }
        past.keep(now);
        now.sewn[seam] = 0;
        return sewn;
    }

    public int unpick(int seam, int n) {
        if (!isSeam(seam) || !within(n, 1, 99)) {
            return NONE;
        }
        if (now.sewn[seam] == 0) {
            return NOT;
        }
        past.keep(now);
        int unpicked = Math.min(n, now.sewn[seam]);
        now.sewn[seam] -= unpicked;
        now.thread = Math.min(MOST_THREAD, now.thread + unpicked);
        return now.thread;
    }

    public boolean send(int cart) {
        if (!isCart(cart) || now.isOnRoad(cart)) {
            return false;
        }
        past.keep(now);
        now.setCartField(cart, AT, plan.from[cart]);
        now.setCartField(cart, ON_ROAD, 1);
        return true;
    }

    public int weeks(int n) {
        if (!within(n, 0, MOST_WEEKS)) {
            return NONE;
        }
        if (n > 0) {
            past.keep(now);
            season.passWeeks(now, n, plan.seed);
        }
        return now.week;
    }

    public boolean undo() {
        return past.takeBack(now);
    }

    public int far(int town, int other) {
        if (!isTown(town) || !isTown(other)) {
            return NONE;
        }
        season.fillWays(now);
        net.measure(now.wholeSeams(plan), season.way, town);
        return net.isReached(other) ? net.distance[other] : NOT;
    }

    public int hops(int town, int other) {
        if (!isTown(town) || !isTown(other)) {
            return NONE;
        }
        int whole = now.wholeSeams(plan);
        int reached = 1 << town;
        for (int steps = 0; steps < MAX_TOWNS; steps++) {
            if (hasBit(reached, other)) {
                return steps;
            }
            reached = net.spread(whole, reached);
        }
        return NOT;
    }

    public int joined(int town) {
        return isTown(town) ? net.reach(now.wholeSeams(plan), 1 << town) : NONE;
    }

    public int hangs() {
        return net.bridges(now.wholeSeams(plan));
    }

    public int takes(int seam, int s) {
        if (!isSeam(seam) || !within(s, 1, MOST_SEWN)) {
            return NONE;
        }
        return rules.threadUpTo(seam, s, now);
    }

    public int sewing(int set, int s, int what) {
        if (set < 0 || set >= 1 << plan.towns || !within(s, 1, MOST_SEWN) || !within(what, 0, 1)) {
            return NONE;
        }
        rules.fillSetCosts(s, now);
        int seams = net.cheapestSeams(rules.setCost, set);
        if (seams < 0) {
            return NOT;
        }
        return what == 0 ? rules.setCost[seams] : seams;
    }

    public int surest(int town, int other) {
        if (!areTwoTowns(town, other)) {
            return NONE;
        }
        int least = net.widest(now.sewn, town, other);
        return least == 0 ? NOT : least;
    }

    public int soon(int town, int other) {
        if (!isTown(town) || !isTown(other)) {
            return NONE;
        }
        season.fillLives(now);
        int reached = 1 << town;
        for (int week = 0; week <= MOST_SOON; week++) {
            if (hasBit(reached, other)) {
                return week;
            }
            reached = net.spread(season.seamsOutliving(week), reached);
        }
        return NOT;
    }

    public int holds(int town, int other) {
        if (!areTwoTowns(town, other)) {
            return NONE;
        }
        season.fillLives(now);
        int lasts = net.widest(season.life, town, other);
        return lasts > MOST_HOLDS ? NOT : lasts;
    }

    public int rows() {
        return net.walks(now.wholeSeams(plan));
    }

    public int march(int n) {
        if (!within(n, 0, MOST_WEEKS)) {
            return NONE;
        }
        return plan.seams == 0 ? NOT : now.evenLevel(plan, n * plan.stitches);
    }

    public int doubles(int town, int other, int s) {
        if (!areTwoTowns(town, other) || !within(s, 1, 99)) {
            return NONE;
        }
        return season.bestToDouble(now, town, other, s);
    }

    public int then(int seam, int n) {
        if (!isSeam(seam) || !within(n, 0, MOST_WEEKS)) {
            return NONE;
        }
        lookAhead(n);
        return later.sewn[seam];
    }

    public int cartIn(int cart, int n, int what) {
        if (!isCart(cart) || !within(n, 0, MOST_WEEKS) || !within(what, 0, 2)) {
            return NONE;
        }
        lookAhead(n);
        if (what == 0) {
            return later.cartField(cart, AT);
        }
        int field = what == 1 ? PAID : STRANDED;
        return later.cartField(cart, field) - now.cartField(cart, field);
    }

    public int year(int town, int other, int n, int s) {
        if (!areTwoTowns(town, other) || !within(n, 0, MOST_WEEKS) || !within(s, 1, MOST_SEEDS)) {
            return NONE;
        }
        if (!season.hasChance()) {
            return staysJoined(town, other, n, plan.seed) ? s : 0;
        }
        int good = 0;
        for (int i = 0; i < s; i++) {
            if (staysJoined(town, other, n, plan.seed + i)) {
                good++;
            }
        }
        return good;
    }

    public int tell(int town, int other, int way) {
        if (!areTwoTowns(town, other) || !within(way, 0, MOST_WAY)) {
            return NONE;
        }
        return search.addTold(town, other, way);
    }

    public int forget() {
        int there = search.told;
        search.clear();
        return there;
    }

    public int cuts(int k, int what) {
        if (!within(k, 0, search.told) || !within(what, 0, 1)) {
            return NONE;
        }
        int possible = possibleCuts(k);
        return what == 0 ? Integer.bitCount(possible) : possible;
    }

    public int ask(int k) {
        if (!within(k, 0, search.told)) {
            return NONE;
        }
        int possible = possibleCuts(k);
        return possible == 0 ? NOT : search.bestQuestion(possible);
    }

    public boolean hold(int slot) {
        if (!within(slot, 0, SLOTS - 1)) {
            return false;
        }
        slots[slot].copyFrom(now);
        held[slot] = true;
        return true;
    }

    public boolean restore(int slot) {
        if (!within(slot, 0, SLOTS - 1) || !held[slot]) {
            return false;
        }
        now.copyFrom(slots[slot]);
        past.clear();
        return true;
    }

    public int count(int what) {
        switch (what) {
            case 0: return plan.towns;
            case 1: return plan.seams;
            case 2: return plan.women;
            case 3: return plan.carts;
            case 4: return now.week;
            case 5: return now.thread;
            case 6: return now.wholeSeams(plan);
            case 7: return now.cartsOnRoad(plan);
            case 8: return tape.length;
            case 9: return past.size;
            case 10: return search.told;
            case 11: return heldSlots();
            case 12: return season.isFrost(now.week, plan.seed) ? 1 : 0;
            case 13: return plan.stitches;
            case 14: return now.sewnTogether(plan);
            default: return NONE;
        }
    }

    private void emptySlots() {
        for (int i = 0; i < SLOTS; i++) {
            held[i] = false;
        }
    }

    private int heldSlots() {
        int sum = 0;
        for (int i = 0; i < SLOTS; i++) {
            if (held[i]) {
                sum++;
            }
        }
        return sum;
    }

    private void lookAhead(int n) {
        later.copyFrom(now);
        season.passWeeks(later, n, plan.seed);
    }

    /** While weeks go by nothing is sewn, so that what has come apart stays apart. */
    private boolean staysJoined(int town, int other, int n, int seed) {
        later.copyFrom(now);
        boolean joined = net.joins(later.wholeSeams(plan), town, other);
        for (int i = 0; i < n && joined; i++) {
            season.passWeeks(later, 1, seed);
            joined = net.joins(later.wholeSeams(plan), town, other);
        }
        return joined;
    }

    private int possibleCuts(int k) {
        season.fillWays(now);
        int whole = now.wholeSeams(plan);
        search.measureCuts(whole, season.way);
        return search.cutsKnownBy(whole, k);
    }

    private boolean isTown(int town) {
        return town >= 0 && town < plan.towns;
    }

    private boolean areTwoTowns(int town, int other) {
        return isTown(town) && isTown(other) && town != other;
    }

    private boolean isSeam(int seam) {
        return seam >= 0 && seam < plan.seams;
    }

    private boolean isCart(int cart) {
        return cart >= 0 && cart < plan.carts;
    }

    private static boolean within(int n, int least, int most) {
        return n >= least && n <= most;
    }

    private static boolean hasBit(int bits, int n) {
        return (bits & (1 << n)) != 0;
    }

    /** The bytes of a text that have come so far. */
    private static final class Tape {
        private final byte[] bytes = new byte[MAX_BYTES];
        int length = 0;

        boolean hasRoomFor(int n) {
            return length + n <= MAX_BYTES;
        }

        void append(int four) {
            for (int shift = 24; shift >= 0 && length < MAX_BYTES; shift -= 8) {
                bytes[length] = (byte) (four >> shift);
                length++;
            }
        }

        /** The byte at a place, 0 .. 255, or NONE where there is none. */
        int byteAt(int place) {
            return place >= 0 && place < length ? bytes[place] & 255 : NONE;
        }
    }

    /** A tape cut into tokens; a name is told by a number that is its own. */
    private static final class Tokens {
        private static final int LONGEST_NAME = 8;
        private static final int LONGEST_INT = 4;

        // One more than may be: the first one too many has a place, and may be no token.
        private final int[] kind = new int[MAX_TOKENS + 1];
        private final int[] start = new int[MAX_TOKENS + 1];
        private final long[] value = new long[MAX_TOKENS + 1];
        private final long[] words = new long[WORD_COUNT];
        private int size = 0;

        Tokens() {
            int word = 0;
            long number = 0;
            for (int i = 0; i < WORDS.length() && word < WORD_COUNT; i++) {
                char letter = WORDS.charAt(i);
                if (letter == ' ') {
                    words[word] = number;
                    number = 0;
                    word++;
                } else {
                    number = withLetter(number, letter);
                }
            }
        }

        int kindOf(int token) {
            return token >= 0 && token < size ? kind[token] : END;
        }

        int startOf(int token) {
            return token >= 0 && token < size ? start[token] : 0;
        }

        long valueOf(int token) {
            return token >= 0 && token < size ? value[token] : 0;
        }

        void scan(Tape tape) {
            size = 0;
            int place = 0;
            for (int n = 0; n <= MAX_TOKENS; n++) {
                place = scanOne(tape, afterBlanks(tape, place));
                if (kindOf(n) == END || kindOf(n) == BAD) {
                    return;
                }
            }
        }

        private int scanOne(Tape tape, int place) {
            int sign = tape.byteAt(place);
            if (isLetter(sign)) {
                return scanLetters(tape, place);
            }
            if (isDigit(sign)) {
                return scanDigits(tape, place);
            }
            if (sign < 0) {
                add(END, place, 0);
            } else {
                add(SIGNS.indexOf((char) sign) >= 0 ? sign : BAD, place, 0);
            }
            return place + 1;
        }

        private int scanLetters(Tape tape, int place) {
            int end = place;
            long number = 0;
            while (end < tape.length && isLetter(tape.byteAt(end))) {
                number = withLetter(number, tape.byteAt(end));
                end++;
            }
            int sort = end - place > LONGEST_NAME ? BAD : sortOfLetters(number);
            add(sort, place, number);
            return end;
        }

        private int scanDigits(Tape tape, int place) {
            int end = place;
            long number = 0;
            while (end < tape.length && isDigit(tape.byteAt(end))) {
                number = number * 10 + tape.byteAt(end) - '0';
                end++;
            }
            add(end - place > LONGEST_INT ? BAD : INT, place, number);
            return end;
        }

        private int sortOfLetters(long number) {
            for (int i = 0; i < WORD_COUNT; i++) {
                if (words[i] == number) {
                    return FIRST_WORD + i;
                }
            }
            return NAME;
        }

        private void add(int sort, int place, long number) {
            if (size < kind.length) {
                kind[size] = sort;
                start[size] = place;
                value[size] = number;
                size++;
            }
        }

        private static int afterBlanks(Tape tape, int place) {
            int at = place;
            while (at < tape.length && isBlank(tape.byteAt(at))) {
                at++;
            }
            return at;
        }

        private static long withLetter(long number, int letter) {
            return number * 27 + (letter - 'a' + 1);
        }

        private static boolean isBlank(int sign) {
            return sign == 9 || sign == 10 || sign == 13 || sign == 32;
        }

        private static boolean isLetter(int sign) {
            return sign >= 'a' && sign <= 'z';
        }

        private static boolean isDigit(int sign) {
            return sign >= '0' && sign <= '9';
        }
    }

    /** The laws as steps for a machine with a stack: each step is 64 * what it is about + what it does. */
    private static final class Laws {
        static final int PUSH_INT = 1;
        static final int PUSH_VAR = 2;
        static final int UNLESS_LESS = 3;
        static final int ANSWER = 4;
        private static final int ABOUT = 64;
        // No token gives more than one step; the laws that hold if none is told take two each.
        private static final int MAX_STEPS = MAX_TOKENS + 2 * LAWS;
        // Two wait at each ( and one at a <: far below this.
        private static final int STACK = 32;

        private final int[] steps = new int[MAX_STEPS];
        private final int[] stack = new int[STACK];
        private final int[] begins = new int[LAWS];
        private int size = 0;

        Laws() {
            clear();
        }

        void clear() {
            size = 0;
            addDefault(COSTS, PUSH_INT, 1);
            addDefault(WEARS, PUSH_INT, 1);
            addDefault(PUCKERS, PUSH_INT, 0);
            addDefault(TOLL, PUSH_VAR, LENGTH);
        }

        void copyFrom(Laws other) {
            System.arraycopy(other.steps, 0, steps, 0, MAX_STEPS);
            System.arraycopy(other.begins, 0, begins, 0, LAWS);
            size = other.size;
        }

        int nextStep() {
            return size;
        }

        void beginLaw(int law, int step) {
            if (within(law, 0, LAWS - 1)) {
                begins[law] = step;
            }
        }

        void addStep(int does, int about) {
            if (size < MAX_STEPS) {
                steps[size] = about * ABOUT + does;
                size++;
            }
        }

        /** Has the UNLESS_LESS that was added as this step go to the next step. */
        void leadHere(int step) {
            if (step >= 0 && step < size) {
                steps[step] = size * ABOUT + UNLESS_LESS;
            }
        }

        /** What a law says; 0 if what is looked at is divided by 0. */
        int say(int law, int[] vars) {
            int top = 0;
            int step = begins[law];
            // Steps only lead onward, so that no more are gone than the row has.
            for (int n = 0; n < MAX_STEPS && step < size; n++) {
                int does = steps[step] % ABOUT;
                int about = steps[step] / ABOUT;
                step++;
                if (does == PUSH_INT || does == PUSH_VAR) {
                    if (top >= STACK || does == PUSH_VAR && about >= VARS) {
                        return 0;
                    }
                    stack[top] = does == PUSH_INT ? about : vars[about];
                    top++;
                } else if (does == ANSWER) {
                    return top > 0 ? stack[top - 1] : 0;
                } else if (top < 2 || does == '/' && stack[top - 1] == 0) {
                    return 0;
                } else if (does == UNLESS_LESS) {
                    top -= 2;
                    step = stack[top] < stack[top + 1] ? step : Math.max(step, about);
                } else {
                    top--;
                    stack[top - 1] = reckon(does, stack[top - 1], stack[top]);
                }
            }
            return 0;
        }

        private static int reckon(int sign, int a, int b) {
            switch (sign) {
                case '+': return a + b;
                case '-': return a - b;
                case '*': return a * b;
                default: return b == 0 ? 0 : a / b;
            }
        }

        private void addDefault(int law, int does, int about) {
            begins[law] = size;
            addStep(does, about);
            addStep(ANSWER, 0);
        }
    }

    /** What a text tells. */
    private static final class Plan {
        int towns;
        int seams;
        int women;
        int carts;
        int stitches;
        int thread;
        int frost;
        int seed;
        final int[] first = new int[MAX_SEAMS];
        final int[] second = new int[MAX_SEAMS];
        final int[] ends = new int[MAX_SEAMS];
        final int[] length = new int[MAX_SEAMS];
        final int[] sewn = new int[MAX_SEAMS];
        final int[] ways = new int[MAX_SEAMS];
        final int[] from = new int[MAX_CARTS];
        final int[] to = new int[MAX_CARTS];
        final int[] load = new int[MAX_CARTS];
        final Laws laws = new Laws();

        Plan() {
            clear();
        }

        void clear() {
            towns = 0;
            seams = 0;
            women = 0;
            carts = 0;
            stitches = 0;
            thread = 100;
            frost = 0;
            seed = 0;
            laws.clear();
        }

        void copyFrom(Plan other) {
            towns = other.towns;
            seams = other.seams;
            women = other.women;
            carts = other.carts;
            stitches = other.stitches;
            thread = other.thread;
            frost = other.frost;
            seed = other.seed;
            System.arraycopy(other.first, 0, first, 0, MAX_SEAMS);
            System.arraycopy(other.second, 0, second, 0, MAX_SEAMS);
            System.arraycopy(other.ends, 0, ends, 0, MAX_SEAMS);
            System.arraycopy(other.length, 0, length, 0, MAX_SEAMS);
            System.arraycopy(other.sewn, 0, sewn, 0, MAX_SEAMS);
            System.arraycopy(other.from, 0, from, 0, MAX_CARTS);
            System.arraycopy(other.to, 0, to, 0, MAX_CARTS);
            System.arraycopy(other.load, 0, load, 0, MAX_CARTS);
            laws.copyFrom(other.laws);
            countWays();
        }

        void addSeam(int town, int other, int howLong, int well) {
            if (seams < MAX_SEAMS) {
                first[seams] = town;
                second[seams] = other;
                ends[seams] = 1 << town | 1 << other;
                length[seams] = howLong;
                sewn[seams] = well;
                seams++;
            }
        }

        void addCart(int town, int other, int weight) {
            if (carts < MAX_CARTS) {
                from[carts] = town;
                to[carts] = other;
                load[carts] = weight;
                carts++;
            }
        }

        boolean hasSeam(int town, int other) {
            for (int i = 0; i < seams; i++) {
                if (ends[i] == (1 << town | 1 << other)) {
                    return true;
                }
            }
            return false;
        }

        private void countWays() {
            for (int i = 0; i < seams; i++) {
                ways[i] = 0;
                for (int j = 0; j < seams; j++) {
                    if (hasBit(ends[j], first[i])) {
                        ways[i]++;
                    }
                }
            }
        }
    }

    /** Reads a text into a draft, and finds its first fault. */
    private static final class Reader {
        private static final int MAX_NAMES = MAX_TOWNS + MAX_WOMEN + MAX_CARTS;

        final Plan draft = new Plan();
        int faultPlace = NONE;

        private final Tokens tokens = new Tokens();
        private final long[] names = new long[MAX_NAMES];
        private final int[] townOfName = new int[MAX_NAMES];
        private int nameCount = 0;
        // The token at hand, and its kind.
        private int at = 0;
        private int kind = END;
        // SYNTAX or ROOM, at the token at hand: nothing behind it is looked at.
        private int fault = 0;
        // The first of the others: it counts only if there is none of those two in all the text.
        private int softFault = 0;
        private int softPlace = NONE;

        int readText(Tape tape) {
            draft.clear();
            tokens.scan(tape);
            nameCount = 0;
            at = 0;
            kind = tokens.kindOf(at);
            fault = 0;
            softFault = 0;
            softPlace = NONE;
            for (int n = 0; n <= MAX_TOKENS && fault == 0 && kind != END; n++) {
                readTell();
            }
            if (fault != 0) {
                faultPlace = tokens.startOf(at);
                return fault;
            }
            faultPlace = softPlace;
            return softFault;
        }

        private void readTell() {
            switch (kind) {
                case TOWN:
                    readTown();
                    break;
                case SEAM:
                    readSeam();
                    break;
                case WOMAN:
                    readWoman();
                    break;
                case CART:
                    readCart();
                    break;
                case THREAD:
                    draft.thread = readNumber(MOST_THREAD);
                    break;
                case FROST:
                    draft.frost = readNumber(100);
                    break;
                case SEED:
                    draft.seed = readNumber(9999);
                    break;
                default:
                    readLaw();
                    break;
            }
        }

        private void readTown() {
            takeFirst(draft.towns < MAX_TOWNS);
            int name = take(NAME);
            take(';');
            if (fault == 0) {
                addName(name, draft.towns);
                draft.towns++;
            }
        }

        private void readSeam() {
            takeFirst(draft.seams < MAX_SEAMS);
            int one = take(NAME);
            int two = take(NAME);
            int howLong = take(INT);
            int well = take(INT);
            take(';');
            if (fault == 0) {
                int town = townAt(one);
                int other = townAt(two);
                if (town == other || draft.hasSeam(town, other)) {
                    note(TWICE, two);
                }
                draft.addSeam(town, other, numberAt(howLong, 1, 99), numberAt(well, 0, MOST_SEWN));
            }
        }

        private void readWoman() {
            takeFirst(draft.women < MAX_WOMEN);
            int name = take(NAME);
            int stitches = take(INT);
            take(';');
            if (fault == 0) {
                addName(name, NONE);
                draft.women++;
                draft.stitches += numberAt(stitches, 1, 99);
            }
        }

        private void readCart() {
            takeFirst(draft.carts < MAX_CARTS);
            int name = take(NAME);
            int from = take(NAME);
            int to = take(NAME);
            int load = take(INT);
            take(';');
            if (fault == 0) {
                addName(name, NONE);
                int town = townAt(from);
                int other = townAt(to);
                if (town == other) {
                    note(TWICE, to);
                }
                draft.addCart(town, other, numberAt(load, 0, 99));
            }
        }

        private int readNumber(int most) {
            takeFirst(true);
            int number = take(INT);
            take(';');
            return fault == 0 ? numberAt(number, 0, most) : 0;
        }

        private void readLaw() {
            int law = kind;
            if (!within(law, FIRST_LAW, LAST_LAW)) {
                fault = SYNTAX;
                return;
            }
            Laws laws = draft.laws;
            int begins = laws.nextStep();
            take(law);
            take('=');
            for (int ifs = 0; ifs <= MAX_IFS && fault == 0 && kind == IF; ifs++) {
                takeFirst(ifs < MAX_IFS);
                readSum(0);
                take('<');
                readSum(0);
                int unless = laws.nextStep();
                laws.addStep(Laws.UNLESS_LESS, 0);
                take(THEN);
                readSum(0);
                laws.addStep(Laws.ANSWER, 0);
                take(ELSE);
                laws.leadHere(unless);
            }
            readSum(0);
            laws.addStep(Laws.ANSWER, 0);
            take(';');
            laws.beginLaw(law - FIRST_LAW, begins);
        }

        private void readSum(int depth) {
            readProduct(depth);
            for (int n = 0; n < MAX_TOKENS && fault == 0 && (kind == '+' || kind == '-'); n++) {
                int sign = kind;
                take(sign);
                readProduct(depth);
                draft.laws.addStep(sign, 0);
            }
        }

        private void readProduct(int depth) {
            readUnit(depth);
            for (int n = 0; n < MAX_TOKENS && fault == 0 && (kind == '*' || kind == '/'); n++) {
                int sign = kind;
                take(sign);
                readUnit(depth);
                draft.laws.addStep(sign, 0);
            }
        }

        private void readUnit(int depth) {
            if (fault != 0) {
                return;
            }
            if (kind == INT) {
                draft.laws.addStep(Laws.PUSH_INT, (int) tokens.valueOf(at));
                take(INT);
            } else if (within(kind, FIRST_VAR, LAST_VAR)) {
                draft.laws.addStep(Laws.PUSH_VAR, kind - FIRST_VAR);
                take(kind);
            } else if (kind != '(') {
                fault = SYNTAX;
            } else if (depth >= MAX_PARENS) {
                fault = ROOM;
            } else {
                take('(');
                readSum(depth + 1);
                take(')');
            }
        }

        /** Goes past the first token of what there may be no room for. */
        private void takeFirst(boolean hasRoom) {
            if (hasRoom) {
                take(kind);
            } else if (fault == 0) {
                fault = ROOM;
            }
        }

        /** Goes past a token that must be of this kind: which one it is. With a fault it goes nowhere. */
        private int take(int due) {
            int token = at;
            if (fault == 0) {
                if (kind != due) {
                    fault = SYNTAX;
                } else if (token >= MAX_TOKENS) {
                    fault = ROOM;
                } else {
                    at++;
                    kind = tokens.kind[at];
                }
            }
            return token;
        }

        private void note(int number, int token) {
            if (softFault == 0) {
                softFault = number;
                softPlace = tokens.startOf(token);
            }
        }

        private void addName(int token, int town) {
            if (findName(token) >= 0) {
                note(TWICE, token);
            }
            if (nameCount < MAX_NAMES) {
                names[nameCount] = tokens.valueOf(token);
                townOfName[nameCount] = town;
                nameCount++;
            }
        }

        private int findName(int token) {
            for (int i = 0; i < nameCount; i++) {
                if (names[i] == tokens.valueOf(token)) {
                    return i;
                }
            }
            return NONE;
        }

        private int townAt(int token) {
            int name = findName(token);
            int town = name < 0 ? NONE : townOfName[name];
            if (town < 0) {
                note(NAME_FAULT, token);
            }
            return town;
        }

        private int numberAt(int token, int least, int most) {
            int number = (int) tokens.valueOf(token);
            if (!within(number, least, most)) {
                note(WRONG, token);
            }
            return number;
        }
    }

    /** All that goes on. */
    private static final class State {
        int week;
        int thread;
        final int[] sewn = new int[MAX_SEAMS];
        private final int[] carts = new int[MAX_CARTS * CART_FIELDS];

        void begin(Plan plan) {
            week = 0;
            thread = plan.thread;
            System.arraycopy(plan.sewn, 0, sewn, 0, MAX_SEAMS);
            Arrays.fill(carts, 0);
            for (int i = 0; i < plan.carts; i++) {
                setCartField(i, AT, plan.from[i]);
            }
        }

        void copyFrom(State other) {
            week = other.week;
            thread = other.thread;
            System.arraycopy(other.sewn, 0, sewn, 0, MAX_SEAMS);
            System.arraycopy(other.carts, 0, carts, 0, MAX_CARTS * CART_FIELDS);
        }

        int cartField(int cart, int field) {
            return carts[cart * CART_FIELDS + field];
        }

        void setCartField(int cart, int field, int value) {
            carts[cart * CART_FIELDS + field] = value;
        }

        void addToCartField(int cart, int field, int more) {
            carts[cart * CART_FIELDS + field] += more;
        }

        boolean isOnRoad(int cart) {
            return cartField(cart, ON_ROAD) != 0;
        }

        int wholeSeams(Plan plan) {
            int bits = 0;
            for (int i = 0; i < plan.seams; i++) {
                if (sewn[i] > 0) {
                    bits |= 1 << i;
                }
            }
            return bits;
        }

        int cartsOnRoad(Plan plan) {
            int bits = 0;
            for (int i = 0; i < plan.carts; i++) {
                if (isOnRoad(i)) {
                    bits |= 1 << i;
                }
            }
            return bits;
        }

        int sewnTogether(Plan plan) {
            int sum = 0;
            for (int i = 0; i < plan.seams; i++) {
                sum += sewn[i];
            }
            return sum;
        }

        /** How well the least sewn seam is sewn once so many stitches are laid where they do most for it. */
        int evenLevel(Plan plan, int stitches) {
            for (int level = MOST_SEWN; level > 0; level--) {
                int need = 0;
                for (int i = 0; i < plan.seams; i++) {
                    need += Math.max(0, level - sewn[i]);
                }
                if (need <= stitches) {
                    return level;
                }
            }
            return 0;
        }
    }

    /** How all was ahead of each of the last things done. */
    private static final class Past {
        private final State[] states = new State[MAX_UNDO];
        private int oldest = 0;
        int size = 0;

        Past() {
            for (int i = 0; i < MAX_UNDO; i++) {
                states[i] = new State();
            }
        }

        void clear() {
            oldest = 0;
            size = 0;
        }

        void keep(State state) {
            if (size == MAX_UNDO) {
                oldest = (oldest + 1) % MAX_UNDO;
                size--;
            }
            states[(oldest + size) % MAX_UNDO].copyFrom(state);
            size++;
        }

        boolean takeBack(State state) {
            if (size == 0) {
                return false;
            }
            size--;
            state.copyFrom(states[(oldest + size) % MAX_UNDO]);
            return true;
        }
    }

    /** What the laws say of a seam. */
    private static final class Rules {
        private final Plan plan;
        private final int[] vars = new int[VARS];
        // The thread that each set of seams takes, the sets (bits) being the numbers of the row.
        final int[] setCost = new int[1 << MAX_SEAMS];

        Rules(Plan plan) {
            this.plan = plan;
        }

        int stitchCost(int seam, int sewn, int week) {
            look(seam, sewn, week);
            vars[NEW] = sewn == 0 ? 1 : 0;
            return held(plan.laws.say(COSTS, vars));
        }

        int wear(int seam, int sewn, int week, int frosty, int carted) {
            look(seam, sewn, week);
            vars[FROSTY] = frosty;
            vars[CARTED] = carted;
            return held(plan.laws.say(WEARS, vars));
        }

        int wayLong(int seam, int sewn, int week) {
            look(seam, sewn, week);
            return Math.max(1, plan.length[seam] - held(plan.laws.say(PUCKERS, vars)));
        }

        int tollFor(int seam, int sewn, int week, int load) {
            look(seam, sewn, week);
            vars[LOAD] = load;
            return held(plan.laws.say(TOLL, vars));
        }

        boolean canStitch(int seam, State state) {
            int sewn = state.sewn[seam];
            return sewn < MOST_SEWN && stitchCost(seam, sewn, state.week) <= state.thread;
        }

        int threadUpTo(int seam, int well, State state) {
            int sum = 0;
            for (int sewn = state.sewn[seam]; sewn < well; sewn++) {
                sum += stitchCost(seam, sewn, state.week);
            }
            return sum;
        }

        void fillSetCosts(int well, State state) {
            setCost[0] = 0;
            for (int i = 0; i < plan.seams; i++) {
                int alone = threadUpTo(i, well, state);
                int bit = 1 << i;
                for (int others = 0; others < bit; others++) {
                    setCost[bit + others] = setCost[others] + alone;
                }
            }
        }

        private void look(int seam, int sewn, int week) {
            vars[LENGTH] = plan.length[seam];
            vars[SEWN] = sewn;
            vars[WEEK] = week;
            vars[FROSTY] = 0;
            vars[CARTED] = 0;
            vars[WHICH] = seam;
            vars[LOAD] = 0;
            vars[NEW] = 0;
            vars[WAYS] = plan.ways[seam];
        }

        private static int held(int said) {
            return Math.max(0, Math.min(99, said));
        }
    }

    /** What sets of seams (bits) join. */
    private static final class Net {
        private static final int UNREACHED = 1000000;

        private final Plan plan;
        final int[] distance = new int[MAX_TOWNS];

        Net(Plan plan) {
            this.plan = plan;
        }

        /** The told towns, and those that are one seam away from them. */
        int spread(int seams, int towns) {
            int wider = towns;
            for (int i = 0; i < plan.seams; i++) {
                if (hasBit(seams, i) && (plan.ends[i] & towns) != 0) {
                    wider |= plan.ends[i];
                }
            }
            return wider;
        }

        int reach(int seams, int towns) {
            int reached = towns;
            for (int steps = 0; steps < MAX_TOWNS; steps++) {
                int wider = spread(seams, reached);
                if (wider == reached) {
                    break;
                }
                reached = wider;
            }
            return reached;
        }

        boolean joins(int seams, int town, int other) {
            return hasBit(reach(seams, 1 << town), other);
        }

        /** Fills distance: how far each town is from this one. */
        void measure(int seams, int[] way, int town) {
            Arrays.fill(distance, UNREACHED);
            distance[town] = 0;
            boolean changed = true;
            for (int round = 0; round < MAX_TOWNS && changed; round++) {
                changed = false;
                for (int i = 0; i < plan.seams; i++) {
                    if (hasBit(seams, i)) {
                        changed |= shorten(plan.first[i], plan.second[i], way[i]);
                        changed |= shorten(plan.second[i], plan.first[i], way[i]);
                    }
                }
            }
        }

        boolean isReached(int town) {
            return distance[town] < UNREACHED;
        }

        /** Of all ways the one whose narrowest seam is widest: that width; 0: there is none. */
        int widest(int[] width, int town, int other) {
            int best = 0;
            for (int i = 0; i < plan.seams; i++) {
                if (width[i] > best && joins(seamsAsWide(width, width[i]), town, other)) {
                    best = width[i];
                }
            }
            return best;
        }

        /** The set of seams that joins all these towns and costs least; NONE: they can't be joined. */
        int cheapestSeams(int[] setCost, int towns) {
            int one = towns & -towns;
            int best = NONE;
            for (int seams = 0; seams < 1 << plan.seams; seams++) {
                boolean better = best < 0 || setCost[seams] < setCost[best];
                if (better && (towns & ~reach(seams, one)) == 0) {
                    best = seams;
                }
            }
            return best;
        }

        int bridges(int seams) {
            int bits = 0;
            for (int i = 0; i < plan.seams; i++) {
                int others = seams & ~(1 << i);
                if (hasBit(seams, i) && !joins(others, plan.first[i], plan.second[i])) {
                    bits |= 1 << i;
                }
            }
            return bits;
        }

        /** A part that is joined takes a walk for each two towns with odd seams, one at least. */
        int walks(int seams) {
            int sum = 0;
            int seen = 0;
            for (int town = 0; town < plan.towns; town++) {
                if (!hasBit(seen, town)) {
                    int part = reach(seams, 1 << town);
                    seen |= part;
                    if (part != 1 << town) {
                        sum += Math.max(1, oddTowns(seams, part) / 2);
                    }
                }
            }
            return sum;
        }

        private int oddTowns(int seams, int part) {
            int odd = 0;
            for (int i = 0; i < plan.seams; i++) {
                if (hasBit(seams, i)) {
                    odd ^= plan.ends[i];
                }
            }
            return Integer.bitCount(odd & part);
        }

        private int seamsAsWide(int[] width, int least) {
            int bits = 0;
            for (int i = 0; i < plan.seams; i++) {
                if (width[i] >= least) {
                    bits |= 1 << i;
                }
            }
            return bits;
        }

        private boolean shorten(int town, int other, int way) {
            if (isReached(town) && distance[town] + way < distance[other]) {
                distance[other] = distance[town] + way;
                return true;
            }
            return false;
        }
    }

    /** How weeks go by. */
    private static final class Season {
        private static final int LOT_BEGINS = 107;

        private final Plan plan;
        private final Rules rules;
        private final Net net;
        private final int[] carted = new int[MAX_SEAMS];
        final int[] way = new int[MAX_SEAMS];
        // Behind how many calm weeks a seam is whole no more; it wears alone, so this tells all.
        final int[] life = new int[MAX_SEAMS];

        Season(Plan plan, Rules rules, Net net) {
            this.plan = plan;
            this.rules = rules;
            this.net = net;
        }

        void fillWays(State state) {
            for (int i = 0; i < plan.seams; i++) {
                way[i] = rules.wayLong(i, state.sewn[i], state.week);
            }
        }

        void passWeeks(State state, int n, int seed) {
            for (int i = 0; i < n; i++) {
                Arrays.fill(carted, 0);
                moveCarts(state);
                wearSeams(state, isFrost(state.week, seed) ? 1 : 0);
                state.week++;
            }
        }

        /** Whether one seed's frosts can differ from another's. */
        boolean hasChance() {
            return plan.frost > 0 && plan.frost < 100;
        }

        boolean isFrost(int week, int seed) {
            return plan.frost > 0 && lotOfHundred(seed, 4 * week) < plan.frost;
        }

        void fillLives(State state) {
            for (int i = 0; i < plan.seams; i++) {
                life[i] = lifeOf(i, state.sewn[i], state.week);
            }
        }

        int seamsOutliving(int weeks) {
            int bits = 0;
            for (int i = 0; i < plan.seams; i++) {
                if (life[i] > weeks) {
                    bits |= 1 << i;
                }
            }
            return bits;
        }

        int bestToDouble(State state, int town, int other, int more) {
            fillLives(state);
            int longest = net.widest(life, town, other);
            int best = NOT;
            for (int i = 0; i < plan.seams; i++) {
                int alone = life[i];
                life[i] = lifeOf(i, Math.min(MOST_SEWN, state.sewn[i] + more), state.week);
                int lasts = net.widest(life, town, other);
                life[i] = alone;
                if (lasts > longest) {
                    longest = lasts;
                    best = i;
                }
            }
            return best;
        }

        /** MOST_HOLDS + 1 if it is whole behind so many weeks. */
        private int lifeOf(int seam, int well, int week) {
            int sewn = well;
            for (int weeks = 0; weeks <= MOST_HOLDS; weeks++) {
                if (sewn <= 0) {
                    return weeks;
                }
                sewn -= rules.wear(seam, sewn, week + weeks, 0, 0);
            }
            return MOST_HOLDS + 1;
        }

        private void moveCarts(State state) {
            int onRoad = state.cartsOnRoad(plan);
            if (onRoad == 0) {
                return;
            }
            int whole = state.wholeSeams(plan);
            fillWays(state);
            for (int i = 0; i < plan.carts; i++) {
                if (hasBit(onRoad, i)) {
                    moveCart(state, i, whole);
                }
            }
        }

        private void moveCart(State state, int cart, int whole) {
            int town = state.cartField(cart, AT);
            net.measure(whole, way, plan.to[cart]);
            int seam = nextSeam(whole, town);
            if (seam < 0) {
                state.addToCartField(cart, STRANDED, 1);
                return;
            }
            int load = plan.load[cart];
            carted[seam] += load;
            state.addToCartField(cart, PAID, rules.tollFor(seam, state.sewn[seam], state.week, load));
            int next = otherEnd(seam, town);
            state.setCartField(cart, AT, next);
            if (next == plan.to[cart]) {
                state.setCartField(cart, ON_ROAD, 0);
                state.addToCartField(cart, CAME, 1);
            }
        }

        /** The first seam of a shortest way from a town to where net measured from. */
        private int nextSeam(int whole, int town) {
            int best = NONE;
            int least = 0;
            for (int i = 0; i < plan.seams; i++) {
                if (hasBit(whole, i) && hasBit(plan.ends[i], town) && net.isReached(otherEnd(i, town))) {
                    int far = way[i] + net.distance[otherEnd(i, town)];
                    if (best < 0 || far < least) {
                        best = i;
                        least = far;
                    }
                }
            }
            return best;
        }

        private int otherEnd(int seam, int town) {
            return plan.first[seam] == town ? plan.second[seam] : plan.first[seam];
        }

        private void wearSeams(State state, int frosty) {
            for (int i = 0; i < plan.seams; i++) {
                if (state.sewn[i] > 0) {
                    int less = rules.wear(i, state.sewn[i], state.week, frosty, carted[i]);
                    state.sewn[i] = Math.max(0, state.sewn[i] - less);
                }
            }
        }

        private static int lotOfHundred(int seed, int which) {
            int h = mixed(mixed(seed, LOT_BEGINS), which);
            return (h >>> 1) % 100;
        }

        private static int mixed(int h, int with) {
            int next = (h ^ with) * 1103515245 + 12345;
            return next ^ next >>> 15;
        }
    }

    /** Which seam was cut, by ways that were measured behind the cut. */
    private static final class Search {
        private static final int PAIRS = MAX_TOWNS * MAX_TOWNS;

        private final Plan plan;
        private final Net net;
        private final int[] town = new int[MAX_TOLD];
        private final int[] other = new int[MAX_TOLD];
        private final int[] way = new int[MAX_TOLD];
        // How far two towns are, were a seam cut; 0: they are not joined.
        private final int[] gap = new int[MAX_SEAMS * PAIRS];
        int told = 0;

        Search(Plan plan, Net net) {
            this.plan = plan;
            this.net = net;
        }

        void clear() {
            told = 0;
        }

        /** Its number, or NONE if there is no room. */
        int addTold(int one, int two, int howLong) {
            if (told >= MAX_TOLD) {
                return NONE;
            }
            town[told] = one;
            other[told] = two;
            way[told] = howLong;
            told++;
            return told - 1;
        }

        void measureCuts(int whole, int[] ways) {
            for (int seam = 0; seam < plan.seams; seam++) {
                if (hasBit(whole, seam)) {
                    for (int from = 0; from < plan.towns; from++) {
                        net.measure(whole & ~(1 << seam), ways, from);
                        for (int to = 0; to < plan.towns; to++) {
                            gap[pairOf(seam, from, to)] = net.isReached(to) ? net.distance[to] : 0;
                        }
                    }
                }
            }
        }

        int cutsKnownBy(int whole, int known) {
            int bits = 0;
            for (int seam = 0; seam < plan.seams; seam++) {
                if (hasBit(whole, seam) && fits(seam, known)) {
                    bits |= 1 << seam;
                }
            }
            return bits;
        }

        /** 10 * a town and another one, of which the way leaves fewest of these cuts, at worst. */
        int bestQuestion(int cuts) {
            int best = NOT;
            int fewest = MAX_SEAMS + 1;
            for (int one = 0; one < plan.towns; one++) {
                for (int two = one + 1; two < plan.towns; two++) {
                    int left = mostAlike(cuts, one, two);
                    if (left < fewest) {
                        fewest = left;
                        best = 10 * one + two;
                    }
                }
            }
            return best;
        }

        private boolean fits(int seam, int known) {
            for (int i = 0; i < known; i++) {
                if (gap[pairOf(seam, town[i], other[i])] != way[i]) {
                    return false;
                }
            }
            return true;
        }

        private int mostAlike(int cuts, int one, int two) {
            int most = 0;
            for (int i = 0; i < plan.seams; i++) {
                if (hasBit(cuts, i)) {
                    most = Math.max(most, alike(cuts, one, two, gap[pairOf(i, one, two)]));
                }
            }
            return most;
        }

        private int alike(int cuts, int one, int two, int howLong) {
            int sum = 0;
            for (int i = 0; i < plan.seams; i++) {
                if (hasBit(cuts, i) && gap[pairOf(i, one, two)] == howLong) {
                    sum++;
                }
            }
            return sum;
        }

        private static int pairOf(int seam, int one, int two) {
            return seam * PAIRS + one * MAX_TOWNS + two;
        }
    }
}
