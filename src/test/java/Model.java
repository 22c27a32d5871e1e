import java.util.ArrayList;
import java.util.Arrays;
import java.util.HashMap;
import java.util.HashSet;
import java.util.List;
import java.util.Map;
import java.util.Set;

/**
 * The document again, word by word and slow, by other means than the class: a parser that knows the grammar as data,
 * laws read from their tokens each time, ways found by trying all, weeks gone through one by one.
 */
final class Model {
    static final class DividedByZero extends RuntimeException {
        private static final long serialVersionUID = 1L;
    }

    record Token(String kind, String text, int place) { }

    record Fault(int number, int place) { }

    record Seam(int first, int second, int length) {
        boolean at(int town) {
            return first == town || second == town;
        }

        int other(int town) {
            return first == town ? second : first;
        }
    }

    record Cart(int from, int to, int load) { }

    record Told(int town, int other, int way) { }

    /** What one text tells. */
    static final class Text {
        int towns = 0;
        List<Seam> seams = new ArrayList<>();
        List<Integer> sewn = new ArrayList<>();
        List<Integer> women = new ArrayList<>();
        List<Cart> carts = new ArrayList<>();
        Map<String, List<Token>> laws = new HashMap<>();
        int thread = 100;
        int frost = 0;
        int seed = 0;
    }

    /** What goes on. */
    static final class World {
        int week = 0;
        int thread = 100;
        int[] sewn = new int[0];
        int[] at = new int[0];
        boolean[] road = new boolean[0];
        int[] paid = new int[0];
        int[] stranded = new int[0];
        int[] came = new int[0];

        World copy() {
            World w = new World();
            w.week = week;
            w.thread = thread;
            w.sewn = sewn.clone();
            w.at = at.clone();
            w.road = road.clone();
            w.paid = paid.clone();
            w.stranded = stranded.clone();
            w.came = came.clone();
            return w;
        }
    }

    private static final Set<String> WORDS = Set.of("town", "seam", "woman", "cart", "costs", "wears", "puckers", "toll",
        "thread", "frost", "seed", "if", "then", "else", "length", "sewn", "week", "frosty", "carted", "which", "load", "new",
        "ways");
    private static final Set<String> VARS = Set.of("length", "sewn", "week", "frosty", "carted", "which", "load", "new", "ways");
    private static final Map<String, Integer> MOST = Map.of("town", 7, "seam", 10, "woman", 3, "cart", 4);
    private static final Map<String, List<List<String>>> GRAMMAR = grammar();

    final List<Integer> tape = new ArrayList<>();
    Text text = new Text();
    World now = new World();
    final List<World> past = new ArrayList<>();
    final World[] slots = new World[3];
    final List<Told> told = new ArrayList<>();
    int place = -1;

    private static Map<String, List<List<String>>> grammar() {
        Map<String, List<List<String>>> g = new HashMap<>();
        String[] rules = {
            "TEXT>", "TEXT>TELL TEXT",
            "TELL>town NAME ;", "TELL>seam NAME NAME INT INT ;", "TELL>woman NAME INT ;", "TELL>cart NAME NAME NAME INT ;",
            "TELL>costs LAW ;", "TELL>wears LAW ;", "TELL>puckers LAW ;", "TELL>toll LAW ;",
            "TELL>thread INT ;", "TELL>frost INT ;", "TELL>seed INT ;",
            "LAW>= IFS E", "IFS>", "IFS>if E < E then E else IFS",
            "E>PART", "E>E + PART", "E>E - PART", "PART>UNIT", "PART>PART * UNIT", "PART>PART / UNIT",
            "UNIT>INT", "UNIT>VAR", "UNIT>( E )",
            "VAR>length", "VAR>sewn", "VAR>week", "VAR>frosty", "VAR>carted", "VAR>which", "VAR>load", "VAR>new", "VAR>ways"};
        for (String rule : rules) {
            String[] sides = rule.split(">", 2);
            String right = sides[1].trim();
            g.computeIfAbsent(sides[0], k -> new ArrayList<>()).add(right.isEmpty() ? List.of() : List.of(right.split(" ")));
        }
        return g;
    }

    // ---- the tape

    int feed(int a, int b, int c, int d, int e) {
        if (tape.size() > 1980) {
            return -1;
        }
        for (int four : new int[] {a, b, c, d, e}) {
            for (int i = 3; i >= 0; i--) {
                tape.add(four >>> (8 * i) & 255);
            }
        }
        return tape.size();
    }

    int back(int n) {
        if (n < 0 || n > tape.size()) {
            return -1;
        }
        for (int i = 0; i < n; i++) {
            tape.remove(tape.size() - 1);
        }
        return tape.size();
    }

    int read() {
        StringBuilder s = new StringBuilder();
        for (int b : tape) {
            s.append((char) b);
        }
        tape.clear();
        Text next = new Text();
        Fault fault = parse(s.toString(), next);
        if (fault != null) {
            place = fault.place;
            return fault.number;
        }
        place = -1;
        text = next;
        now = new World();
        now.thread = text.thread;
        now.sewn = text.sewn.stream().mapToInt(i -> i).toArray();
        now.at = text.carts.stream().mapToInt(c -> c.from).toArray();
        now.road = new boolean[text.carts.size()];
        now.paid = new int[text.carts.size()];
        now.stranded = new int[text.carts.size()];
        now.came = new int[text.carts.size()];
        past.clear();
        told.clear();
        Arrays.fill(slots, null);
        return 0;
    }

    int place() {
        return place;
    }

    // ---- the text

    static List<Token> tokens(String s) {
        List<Token> all = new ArrayList<>();
        int i = 0;
        while (i < s.length()) {
            String rest = s.substring(i);
            String run = rest.replaceAll("(?s)^([a-z]+|[0-9]+|.).*$", "$1");
            char c = run.charAt(0);
            if (c == 9 || c == 10 || c == 13 || c == 32) {
                i++;
                continue;
            }
            String kind = "NONE";
            if (run.matches("[a-z]{1,8}")) {
                kind = WORDS.contains(run) ? run : "NAME";
            } else if (run.matches("[0-9]{1,4}")) {
                kind = "INT";
            } else if (run.matches("[;=+*/<()-]")) {
                kind = run;
            }
            all.add(new Token(kind, run, i));
            i += run.length();
        }
        return all;
    }

    static Fault least(List<Fault> faults) {
        Fault best = null;
        for (Fault f : faults) {
            if (best == null || f.place < best.place || f.place == best.place && f.number < best.number) {
                best = f;
            }
        }
        return best;
    }

    static Fault parse(String s, Text into) {
        List<Token> tokens = tokens(s);
        List<Fault> hard = new ArrayList<>();
        int bad = syntax(tokens);
        if (bad >= 0) {
            hard.add(new Fault(1, bad < tokens.size() ? tokens.get(bad).place : s.length()));
        }
        room(tokens, hard);
        if (!hard.isEmpty()) {
            return least(hard);
        }
        List<Fault> soft = new ArrayList<>();
        List<Token> tell = new ArrayList<>();
        Map<String, Integer> names = new HashMap<>();
        for (Token t : tokens) {
            tell.add(t);
            if (t.kind.equals(";")) {
                take(tell, into, names, soft);
                tell = new ArrayList<>();
            }
        }
        return least(soft);
    }

    /** Which token no text goes on with, by Earley's way; tokens.size() for the end; -1: none. */
    static int syntax(List<Token> tokens) {
        record Item(String left, List<String> right, int dot, int from) { }
        List<List<Item>> sets = new ArrayList<>();
        List<Item> start = new ArrayList<>();
        for (List<String> right : GRAMMAR.get("TEXT")) {
            start.add(new Item("TEXT", right, 0, 0));
        }
        sets.add(start);
        for (int i = 0;; i++) {
            List<Item> set = sets.get(i);
            Set<Item> seen = new HashSet<>(set);
            List<Item> next = new ArrayList<>();
            boolean whole = false;
            for (int j = 0; j < set.size(); j++) {
                Item item = set.get(j);
                if (item.dot == item.right.size()) {
                    whole |= item.left.equals("TEXT") && item.from == 0;
                    List<Item> waiting = sets.get(item.from);
                    for (int w = 0; w < waiting.size(); w++) {
                        Item it = waiting.get(w);
                        if (it.dot < it.right.size() && it.right.get(it.dot).equals(item.left)) {
                            Item on = new Item(it.left, it.right, it.dot + 1, it.from);
                            if (seen.add(on)) {
                                set.add(on);
                            }
                        }
                    }
                    continue;
                }
                String symbol = item.right.get(item.dot);
                if (!GRAMMAR.containsKey(symbol)) {
                    if (i < tokens.size() && tokens.get(i).kind.equals(symbol)) {
                        next.add(new Item(item.left, item.right, item.dot + 1, item.from));
                    }
                    continue;
                }
                for (List<String> right : GRAMMAR.get(symbol)) {
                    Item in = new Item(symbol, right, 0, i);
                    if (seen.add(in)) {
                        set.add(in);
                    }
                    if (right.isEmpty()) {
                        Item over = new Item(item.left, item.right, item.dot + 1, item.from);
                        if (seen.add(over)) {
                            set.add(over);
                        }
                    }
                }
            }
            if (i == tokens.size()) {
                return whole ? -1 : i;
            }
            if (next.isEmpty()) {
                return i;
            }
            sets.add(next);
        }
    }

    static void room(List<Token> tokens, List<Fault> faults) {
        Map<String, Integer> seen = new HashMap<>();
        int ifs = 0;
        int open = 0;
        for (int i = 0; i < tokens.size(); i++) {
            Token t = tokens.get(i);
            if (t.kind.equals("NONE")) {
                return;
            }
            if (i >= 400) {
                faults.add(new Fault(2, t.place));
            }
            if (MOST.containsKey(t.kind) && seen.merge(t.kind, 1, Integer::sum) > MOST.get(t.kind)) {
                faults.add(new Fault(2, t.place));
            }
            if (t.kind.equals("=")) {
                ifs = 0;
                open = 0;
            }
            if (t.kind.equals("if") && ++ifs > 4) {
                faults.add(new Fault(2, t.place));
            }
            if (t.kind.equals("(") && ++open > 6) {
                faults.add(new Fault(2, t.place));
            }
            if (t.kind.equals(")")) {
                open--;
            }
        }
    }

    private static void number(Token t, int least, int most, List<Fault> faults) {
        int n = Integer.parseInt(t.text);
        if (n < least || n > most) {
            faults.add(new Fault(5, t.place));
        }
    }

    private static void name(Token t, int town, Map<String, Integer> names, List<Fault> faults) {
        if (names.putIfAbsent(t.text, town) != null) {
            faults.add(new Fault(3, t.place));
        }
    }

    private static int town(Token t, Map<String, Integer> names, List<Fault> faults) {
        int town = names.getOrDefault(t.text, -1);
        if (town < 0) {
            faults.add(new Fault(4, t.place));
        }
        return town;
    }

    private static void take(List<Token> tell, Text into, Map<String, Integer> names, List<Fault> faults) {
        String sort = tell.get(0).kind;
        switch (sort) {
            case "town" -> {
                name(tell.get(1), into.towns, names, faults);
                into.towns++;
            }
            case "seam" -> {
                int a = town(tell.get(1), names, faults);
                int b = town(tell.get(2), names, faults);
                boolean twice = a >= 0 && a == b;
                for (Seam s : into.seams) {
                    twice |= s.at(a) && s.at(b) && a != b;
                }
                if (twice) {
                    faults.add(new Fault(3, tell.get(2).place));
                }
                number(tell.get(3), 1, 99, faults);
                number(tell.get(4), 0, 99, faults);
                into.seams.add(new Seam(a, b, Integer.parseInt(tell.get(3).text)));
                into.sewn.add(Integer.parseInt(tell.get(4).text));
            }
            case "woman" -> {
                name(tell.get(1), -1, names, faults);
                number(tell.get(2), 1, 99, faults);
                into.women.add(Integer.parseInt(tell.get(2).text));
            }
            case "cart" -> {
                name(tell.get(1), -1, names, faults);
                int a = town(tell.get(2), names, faults);
                int b = town(tell.get(3), names, faults);
                if (a >= 0 && a == b) {
                    faults.add(new Fault(3, tell.get(3).place));
                }
                number(tell.get(4), 0, 99, faults);
                into.carts.add(new Cart(a, b, Integer.parseInt(tell.get(4).text)));
            }
            case "thread" -> into.thread = Integer.parseInt(tell.get(1).text);
            case "frost" -> {
                number(tell.get(1), 0, 100, faults);
                into.frost = Integer.parseInt(tell.get(1).text);
            }
            case "seed" -> into.seed = Integer.parseInt(tell.get(1).text);
            default -> into.laws.put(sort, new ArrayList<>(tell.subList(2, tell.size() - 1)));
        }
    }

    // ---- the laws

    /** Reckons a law as it reads it. */
    private static final class Reckoner {
        final List<Token> law;
        final Map<String, Integer> vars;
        int at = 0;

        Reckoner(List<Token> law, Map<String, Integer> vars) {
            this.law = law;
            this.vars = vars;
        }

        String kind() {
            return at < law.size() ? law.get(at).kind : "";
        }

        int whole() {
            while (kind().equals("if")) {
                at++;
                int a = sum();
                at++;
                int b = sum();
                at++;
                if (a < b) {
                    return sum();
                }
                while (!kind().equals("else")) {
                    at++;
                }
                at++;
            }
            return sum();
        }

        int sum() {
            int a = product();
            while (kind().equals("+") || kind().equals("-")) {
                long sign = law.get(at++).kind.equals("+") ? 1 : -1;
                a = (int) (a + sign * product());
            }
            return a;
        }

        int product() {
            int a = unit();
            while (kind().equals("*") || kind().equals("/")) {
                boolean times = law.get(at++).kind.equals("*");
                int b = unit();
                if (!times && b == 0) {
                    throw new DividedByZero();
                }
                a = (int) (times ? (long) a * b : (long) a / b);
            }
            return a;
        }

        int unit() {
            Token t = law.get(at++);
            if (t.kind.equals("INT")) {
                return Integer.parseInt(t.text);
            }
            if (VARS.contains(t.kind)) {
                return vars.getOrDefault(t.kind, 0);
            }
            int a = sum();
            at++;
            return a;
        }
    }

    int law(String name, int seam, int sewn, int week, Map<String, Integer> more) {
        List<Token> law = text.laws.get(name);
        if (law == null) {
            return switch (name) {
                case "puckers" -> 0;
                case "toll" -> text.seams.get(seam).length;
                default -> 1;
            };
        }
        Map<String, Integer> vars = new HashMap<>(more);
        Seam s = text.seams.get(seam);
        vars.put("length", s.length);
        vars.put("sewn", sewn);
        vars.put("week", week);
        vars.put("which", seam);
        vars.put("ways", (int) text.seams.stream().filter(o -> o.at(s.first)).count());
        int said;
        try {
            said = new Reckoner(law, vars).whole();
        } catch (DividedByZero e) {
            said = 0;
        }
        return said < 0 ? 0 : said > 99 ? 99 : said;
    }

    int costs(int seam, int sewn, int week) {
        return law("costs", seam, sewn, week, Map.of("new", sewn == 0 ? 1 : 0));
    }

    int wears(int seam, int sewn, int week, boolean frosty, int carted) {
        return law("wears", seam, sewn, week, Map.of("frosty", frosty ? 1 : 0, "carted", carted));
    }

    int way(World w, int seam) {
        int way = text.seams.get(seam).length - law("puckers", seam, w.sewn[seam], w.week, Map.of());
        return way < 1 ? 1 : way;
    }

    static int lot(int n, int seed, int which) {
        long h = seed & 0xffffffffL;
        for (int it : new int[] {107, which}) {
            h = ((h ^ (it & 0xffffffffL)) * 1103515245L + 12345L) & 0xffffffffL;
            h = h ^ (h / 32768);
        }
        return (int) (h / 2 % n);
    }

    boolean frost(int week, int seed) {
        return lot(100, seed, 4 * week) < text.frost;
    }

    // ---- ways, by trying all

    interface Measure {
        long of(int seam);
    }

    /** The least sum over all ways along whole seams that go through no town twice; -1: there is none. */
    long least(World w, int a, int b, Measure m) {
        return least(w, a, b, m, 1 << a);
    }

    private long least(World w, int a, int b, Measure m, int been) {
        if (a == b) {
            return 0;
        }
        long best = -1;
        for (int i = 0; i < text.seams.size(); i++) {
            Seam s = text.seams.get(i);
            if (w.sewn[i] > 0 && s.at(a) && (been >> s.other(a) & 1) == 0) {
                long rest = least(w, s.other(a), b, m, been | 1 << s.other(a));
                if (rest >= 0 && (best < 0 || rest + m.of(i) < best)) {
                    best = rest + m.of(i);
                }
            }
        }
        return best;
    }

    boolean joined(World w, int a, int b) {
        return least(w, a, b, i -> 1) >= 0;
    }

    long far(World w, int a, int b) {
        return least(w, a, b, i -> way(w, i));
    }

    // ---- weeks

    void week(World w, int seed) {
        int[] carted = new int[text.seams.size()];
        for (int c = 0; c < text.carts.size(); c++) {
            if (w.road[c]) {
                go(w, c, carted);
            }
        }
        boolean frosty = frost(w.week, seed);
        for (int i = 0; i < carted.length; i++) {
            int less = wears(i, w.sewn[i], w.week, frosty, carted[i]);
            w.sewn[i] = w.sewn[i] < less ? 0 : w.sewn[i] - less;
        }
        w.week++;
    }

    private void go(World w, int c, int[] carted) {
        Cart cart = text.carts.get(c);
        int best = -1;
        long least = Long.MAX_VALUE;
        for (int i = 0; i < carted.length; i++) {
            Seam s = text.seams.get(i);
            if (w.sewn[i] > 0 && s.at(w.at[c])) {
                long rest = far(w, s.other(w.at[c]), cart.to);
                if (rest >= 0 && way(w, i) + rest < least) {
                    least = way(w, i) + rest;
                    best = i;
                }
            }
        }
        if (best < 0) {
            w.stranded[c]++;
            return;
        }
        w.paid[c] += law("toll", best, w.sewn[best], w.week, Map.of("load", cart.load));
        carted[best] += cart.load;
        w.at[c] = text.seams.get(best).other(w.at[c]);
        if (w.at[c] == cart.to) {
            w.road[c] = false;
            w.came[c]++;
        }
    }

    void calmWeek(World w) {
        for (int i = 0; i < w.sewn.length; i++) {
            int less = wears(i, w.sewn[i], w.week, false, 0);
            w.sewn[i] = w.sewn[i] < less ? 0 : w.sewn[i] - less;
        }
        w.week++;
    }

    World in(int n, int seed) {
        World w = now.copy();
        for (int i = 0; i < n; i++) {
            week(w, seed);
        }
        return w;
    }

    // ---- the face

    private boolean isTown(int t) {
        return t >= 0 && t < text.towns;
    }

    private boolean isSeam(int s) {
        return s >= 0 && s < text.seams.size();
    }

    private boolean isCart(int c) {
        return c >= 0 && c < text.carts.size();
    }

    private void keep() {
        past.add(now.copy());
        if (past.size() > 40) {
            past.remove(0);
        }
    }

    int seam(int seam, int what) {
        if (!isSeam(seam)) {
            return -1;
        }
        Seam s = text.seams.get(seam);
        return switch (what) {
            case 0 -> s.first;
            case 1 -> s.second;
            case 2 -> s.length;
            case 3 -> now.sewn[seam];
            case 4 -> costs(seam, now.sewn[seam], now.week);
            case 5 -> wears(seam, now.sewn[seam], now.week, false, 0);
            case 6 -> way(now, seam);
            default -> -1;
        };
    }

    int cart(int cart, int what) {
        if (!isCart(cart)) {
            return -1;
        }
        Cart c = text.carts.get(cart);
        return switch (what) {
            case 0 -> c.from;
            case 1 -> c.to;
            case 2 -> c.load;
            case 3 -> now.at[cart];
            case 4 -> now.road[cart] ? 1 : 0;
            case 5 -> now.paid[cart];
            case 6 -> now.stranded[cart];
            case 7 -> now.came[cart];
            default -> -1;
        };
    }

    int toll(int seam, int load) {
        return isSeam(seam) && load >= 0 && load <= 99
            ? law("toll", seam, now.sewn[seam], now.week, Map.of("load", load)) : -1;
    }

    int sew(int seam, int n) {
        if (!isSeam(seam) || n < 1 || n > 99) {
            return -1;
        }
        World w = now.copy();
        int made = 0;
        for (int i = 0; i < n; i++) {
            int cost = costs(seam, w.sewn[seam], w.week);
            if (w.sewn[seam] == 99 || cost > w.thread) {
                break;
            }
            w.thread -= cost;
            w.sewn[seam]++;
            made++;
        }
        if (made == 0) {
            return -2;
        }
        keep();
        now = w;
        return made;
    }

    int cut(int seam) {
        if (!isSeam(seam)) {
            return -1;
        }
        int was = now.sewn[seam];
        if (was == 0) {
            return -2;
        }
        keep();
        now.sewn[seam] = 0;
        return was;
    }

    int unpick(int seam, int n) {
        if (!isSeam(seam) || n < 1 || n > 99) {
            return -1;
        }
        if (now.sewn[seam] == 0) {
            return -2;
        }
        keep();
        for (int i = 0; i < n && now.sewn[seam] > 0; i++) {
            now.sewn[seam]--;
            if (now.thread < 9999) {
                now.thread++;
            }
        }
        return now.thread;
    }

    boolean send(int cart) {
        if (!isCart(cart) || now.road[cart]) {
            return false;
        }
        keep();
        now.at[cart] = text.carts.get(cart).from;
        now.road[cart] = true;
        return true;
    }

    int weeks(int n) {
        if (n < 0 || n > 60) {
            return -1;
        }
        if (n > 0) {
            keep();
            now = in(n, text.seed);
        }
        return now.week;
    }

    boolean undo() {
        if (past.isEmpty()) {
            return false;
        }
        now = past.remove(past.size() - 1);
        return true;
    }

    int far(int a, int b) {
        if (!isTown(a) || !isTown(b)) {
            return -1;
        }
        long far = far(now, a, b);
        return far < 0 ? -2 : (int) far;
    }

    int hops(int a, int b) {
        if (!isTown(a) || !isTown(b)) {
            return -1;
        }
        long hops = least(now, a, b, i -> 1);
        return hops < 0 ? -2 : (int) hops;
    }

    int joined(int a) {
        if (!isTown(a)) {
            return -1;
        }
        int bits = 0;
        for (int t = 0; t < text.towns; t++) {
            bits |= joined(now, a, t) ? 1 << t : 0;
        }
        return bits;
    }

    int hangs() {
        int bits = 0;
        for (int i = 0; i < now.sewn.length; i++) {
            if (now.sewn[i] > 0) {
                World w = now.copy();
                w.sewn[i] = 0;
                bits |= joined(w, text.seams.get(i).first, text.seams.get(i).second) ? 0 : 1 << i;
            }
        }
        return bits;
    }

    int takes(int seam, int s) {
        if (!isSeam(seam) || s < 1 || s > 99) {
            return -1;
        }
        int sum = 0;
        for (int sewn = now.sewn[seam]; sewn < s; sewn++) {
            sum += costs(seam, sewn, now.week);
        }
        return sum;
    }

    int sewing(int set, int s, int what) {
        if (set < 0 || set >> text.towns != 0 || s < 1 || s > 99 || what < 0 || what > 1) {
            return -1;
        }
        int[] cost = new int[text.seams.size()];
        for (int i = 0; i < cost.length; i++) {
            cost[i] = takes(i, s);
        }
        int best = -1;
        int least = Integer.MAX_VALUE;
        for (int bits = 0; bits < 1 << cost.length; bits++) {
            int sum = 0;
            int[] group = new int[text.towns];
            for (int t = 0; t < text.towns; t++) {
                group[t] = t;
            }
            for (int i = 0; i < cost.length; i++) {
                if ((bits >> i & 1) == 1) {
                    sum += cost[i];
                    int from = group[text.seams.get(i).first];
                    int to = group[text.seams.get(i).second];
                    for (int t = 0; t < text.towns; t++) {
                        group[t] = group[t] == from ? to : group[t];
                    }
                }
            }
            Set<Integer> groups = new HashSet<>();
            for (int t = 0; t < text.towns; t++) {
                if ((set >> t & 1) == 1) {
                    groups.add(group[t]);
                }
            }
            if (groups.size() <= 1 && sum < least) {
                least = sum;
                best = bits;
            }
        }
        return best < 0 ? -2 : what == 0 ? least : best;
    }

    int surest(int a, int b) {
        if (!isTown(a) || !isTown(b) || a == b) {
            return -1;
        }
        int best = surest(a, b, 1 << a, 1000);
        return best == 0 ? -2 : best;
    }

    private int surest(int a, int b, int been, int least) {
        if (a == b) {
            return least;
        }
        int best = 0;
        for (int i = 0; i < now.sewn.length; i++) {
            Seam s = text.seams.get(i);
            if (now.sewn[i] > 0 && s.at(a) && (been >> s.other(a) & 1) == 0) {
                best = Math.max(best, surest(s.other(a), b, been | 1 << s.other(a), Math.min(least, now.sewn[i])));
            }
        }
        return best;
    }

    int soon(int a, int b) {
        if (!isTown(a) || !isTown(b)) {
            return -1;
        }
        Set<Integer> there = new HashSet<>(Set.of(a));
        World w = now.copy();
        for (int week = 0; week <= 40; week++) {
            if (there.contains(b)) {
                return week;
            }
            Set<Integer> next = new HashSet<>(there);
            for (int i = 0; i < w.sewn.length; i++) {
                for (int t : there) {
                    if (w.sewn[i] > 0 && text.seams.get(i).at(t)) {
                        next.add(text.seams.get(i).other(t));
                    }
                }
            }
            there = next;
            calmWeek(w);
        }
        return -2;
    }

    int lasts(World start, int a, int b) {
        World w = start.copy();
        for (int weeks = 0; weeks <= 200; weeks++) {
            if (!joined(w, a, b)) {
                return weeks;
            }
            calmWeek(w);
        }
        return Integer.MAX_VALUE;
    }

    int holds(int a, int b) {
        if (!isTown(a) || !isTown(b) || a == b) {
            return -1;
        }
        int lasts = lasts(now, a, b);
        return lasts == Integer.MAX_VALUE ? -2 : lasts;
    }

    int rows() {
        int whole = count(6);
        return whole == 0 ? 0 : walks(whole, -1, new HashMap<>());
    }

    /** The fewest walks more that are begun, from a town where the thread is, to go along these seams. */
    private int walks(int left, int town, Map<Integer, Integer> known) {
        if (left == 0) {
            return 0;
        }
        int key = left * 8 + town + 1;
        Integer old = known.get(key);
        if (old != null) {
            return old;
        }
        int best = 1000;
        for (int i = 0; i < now.sewn.length; i++) {
            if ((left >> i & 1) == 1) {
                Seam s = text.seams.get(i);
                int rest = left & ~(1 << i);
                best = Math.min(best, (s.first == town ? 0 : 1) + walks(rest, s.second, known));
                best = Math.min(best, (s.second == town ? 0 : 1) + walks(rest, s.first, known));
            }
        }
        known.put(key, best);
        return best;
    }

    int march(int n) {
        if (n < 0 || n > 60) {
            return -1;
        }
        if (text.seams.isEmpty()) {
            return -2;
        }
        int[] sewn = now.sewn.clone();
        for (int stitch = n * count(13); stitch > 0; stitch--) {
            Arrays.sort(sewn);
            sewn[0] = Math.min(99, sewn[0] + 1);
        }
        Arrays.sort(sewn);
        return sewn[0];
    }

    int doubles(int a, int b, int s) {
        if (!isTown(a) || !isTown(b) || a == b || s < 1 || s > 99) {
            return -1;
        }
        int best = -2;
        int longest = lasts(now, a, b);
        for (int i = 0; i < now.sewn.length; i++) {
            World w = now.copy();
            w.sewn[i] = Math.min(99, w.sewn[i] + s);
            int lasts = lasts(w, a, b);
            if (lasts > longest) {
                longest = lasts;
                best = i;
            }
        }
        return best;
    }

    int then(int seam, int n) {
        return isSeam(seam) && n >= 0 && n <= 60 ? in(n, text.seed).sewn[seam] : -1;
    }

    int cartIn(int cart, int n, int what) {
        if (!isCart(cart) || n < 0 || n > 60 || what < 0 || what > 2) {
            return -1;
        }
        World w = in(n, text.seed);
        return what == 0 ? w.at[cart]
            : what == 1 ? w.paid[cart] - now.paid[cart] : w.stranded[cart] - now.stranded[cart];
    }

    int year(int a, int b, int n, int s) {
        if (!isTown(a) || !isTown(b) || a == b || n < 0 || n > 60 || s < 1 || s > 20) {
            return -1;
        }
        int good = 0;
        for (int seed = text.seed; seed < text.seed + s; seed++) {
            good += joined(in(n, seed), a, b) ? 1 : 0;
        }
        return good;
    }

    int tell(int a, int b, int way) {
        if (!isTown(a) || !isTown(b) || a == b || way < 0 || way > 999 || told.size() == 20) {
            return -1;
        }
        told.add(new Told(a, b, way));
        return told.size() - 1;
    }

    int forget() {
        int there = told.size();
        told.clear();
        return there;
    }

    private int measured(int cut, int a, int b) {
        World w = now.copy();
        w.sewn[cut] = 0;
        long far = far(w, a, b);
        return far < 0 ? 0 : (int) far;
    }

    private List<Integer> cuts(int k) {
        List<Integer> all = new ArrayList<>();
        for (int i = 0; i < now.sewn.length; i++) {
            boolean so = now.sewn[i] > 0;
            for (int j = 0; so && j < k; j++) {
                so = measured(i, told.get(j).town, told.get(j).other) == told.get(j).way;
            }
            if (so) {
                all.add(i);
            }
        }
        return all;
    }

    int cuts(int k, int what) {
        if (k < 0 || k > told.size() || what < 0 || what > 1) {
            return -1;
        }
        List<Integer> all = cuts(k);
        return what == 0 ? all.size() : all.stream().mapToInt(i -> 1 << i).sum();
    }

    int ask(int k) {
        if (k < 0 || k > told.size()) {
            return -1;
        }
        List<Integer> all = cuts(k);
        if (all.isEmpty()) {
            return -2;
        }
        int best = -2;
        int fewest = Integer.MAX_VALUE;
        for (int a = 0; a < text.towns; a++) {
            for (int b = a + 1; b < text.towns; b++) {
                Map<Integer, Integer> left = new HashMap<>();
                for (int cut : all) {
                    left.merge(measured(cut, a, b), 1, Integer::sum);
                }
                int worst = left.values().stream().mapToInt(i -> i).max().orElse(0);
                if (worst < fewest) {
                    fewest = worst;
                    best = 10 * a + b;
                }
            }
        }
        return best;
    }

    boolean hold(int slot) {
        if (slot < 0 || slot > 2) {
            return false;
        }
        slots[slot] = now.copy();
        return true;
    }

    boolean restore(int slot) {
        if (slot < 0 || slot > 2 || slots[slot] == null) {
            return false;
        }
        now = slots[slot].copy();
        past.clear();
        return true;
    }

    int count(int what) {
        switch (what) {
            case 0: return text.towns;
            case 1: return text.seams.size();
            case 2: return text.women.size();
            case 3: return text.carts.size();
            case 4: return now.week;
            case 5: return now.thread;
            case 6: {
                int bits = 0;
                for (int i = 0; i < now.sewn.length; i++) {
                    bits += now.sewn[i] > 0 ? 1 << i : 0;
                }
                return bits;
            }
            case 7: {
                int bits = 0;
                for (int i = 0; i < now.road.length; i++) {
                    bits += now.road[i] ? 1 << i : 0;
                }
                return bits;
            }
            case 8: return tape.size();
            case 9: return past.size();
            case 10: return told.size();
            case 11: return (int) Arrays.stream(slots).filter(s -> s != null).count();
            case 12: return frost(now.week, text.seed) ? 1 : 0;
            case 13: return text.women.stream().mapToInt(i -> i).sum();
            case 14: return Arrays.stream(now.sewn).sum();
            default: return -1;
        }
    }
}
