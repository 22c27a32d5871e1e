import java.util.ArrayList;
import java.util.List;
import java.util.Random;

/** Writes texts, good ones and such as have faults, by a seed. */
final class Writer {
    private static final String[] SIGNS = {"+", "-", "*", "/"};
    private static final String[] VARS = {"length", "sewn", "week", "frosty", "carted", "which", "load", "new", "ways"};
    private static final String[] ANY = {"town", "seam", "woman", "cart", "costs", "wears", "puckers", "toll", "thread", "frost",
        "seed", "if", "then", "else", "length", "sewn", "week", "frosty", "carted", "which", "load", "new", "ways", "a", "b",
        "zzzzzzzz", "zzzzzzzzz", "0", "1", "99", "100", "9999", "10000", ";", "=", "+", "-", "*", "/", "<", "(", ")", ".", "A",
        "\u00e9", ",", "'"};
    private static final String[] BLANKS = {" ", "  ", "\n", "\t", "\r\n"};

    private final Random random;

    Writer(Random random) {
        this.random = random;
    }

    private int to(int most) {
        return random.nextInt(most + 1);
    }

    private String one(String[] of) {
        return of[random.nextInt(of.length)];
    }

    /** The tokens of a text without faults. */
    List<String> good() {
        List<List<String>> tells = new ArrayList<>();
        int towns = to(5) == 0 ? to(2) : 3 + to(4);
        List<String> names = new ArrayList<>();
        for (int i = 0; i < towns; i++) {
            String name = String.valueOf((char) ('a' + i)) + (to(3) == 0 ? "own" : "");
            names.add(name);
            tells.add(List.of("town", name, ";"));
        }
        seams(names, tells);
        for (int i = 0; i < to(3); i++) {
            tells.add(List.of("woman", "w" + (char) ('a' + i), "" + (1 + to(to(3) == 0 ? 98 : 9)), ";"));
        }
        for (int i = 0; i < 4 && towns > 1; i++) {
            int from = random.nextInt(towns);
            int to = (from + 1 + random.nextInt(towns - 1)) % towns;
            tells.add(List.of("cart", "c" + (char) ('a' + i), names.get(from), names.get(to), "" + to(to(2) == 0 ? 99 : 9), ";"));
        }
        laws(tells);
        if (to(2) > 0) {
            tells.add(List.of("frost", "" + to(100), ";"));
        }
        if (to(2) > 0) {
            tells.add(List.of("seed", "" + to(9999), ";"));
        }
        if (to(2) > 0) {
            tells.add(List.of("thread", "" + (to(4) == 0 ? 9999 - to(50) : to(400)), ";"));
        }
        List<String> all = new ArrayList<>();
        tells.forEach(all::addAll);
        return all;
    }

    private void seams(List<String> names, List<List<String>> tells) {
        int towns = names.size();
        boolean[] there = new boolean[49];
        int seams = towns < 2 ? 0 : to(2) == 0 ? to(10) : 10;
        int well = to(3) == 0 ? 99 : 4 + to(12);
        int longest = to(2) == 0 ? 3 : 99;
        for (int i = 0; i < seams; i++) {
            int a = random.nextInt(towns);
            int b = (a + 1 + random.nextInt(towns - 1)) % towns;
            if (!there[Math.min(a, b) * 7 + Math.max(a, b)]) {
                there[Math.min(a, b) * 7 + Math.max(a, b)] = true;
                tells.add(List.of("seam", names.get(a), names.get(b), "" + (1 + random.nextInt(longest)), "" + to(well), ";"));
            }
        }
    }

    private void laws(List<List<String>> tells) {
        for (String law : new String[] {"costs", "wears", "puckers", "toll", "wears"}) {
            if (to(2) > 0) {
                List<String> tell = new ArrayList<>(List.of(law, "="));
                law(tell);
                tell.add(";");
                tells.add(tell);
            }
        }
    }

    private void law(List<String> into) {
        for (int i = to(4) - 1; i > 0; i--) {
            into.add("if");
            sum(into, 2);
            into.add("<");
            sum(into, 1);
            into.add("then");
            sum(into, 1);
            into.add("else");
        }
        sum(into, 2);
    }

    private void sum(List<String> into, int deep) {
        product(into, deep);
        while (to(2) == 0) {
            into.add(to(1) == 0 ? "+" : "-");
            product(into, deep);
        }
    }

    private void product(List<String> into, int deep) {
        unit(into, deep);
        while (to(2) == 0) {
            into.add(to(1) == 0 ? "*" : "/");
            unit(into, deep);
        }
    }

    private void unit(List<String> into, int deep) {
        int sort = to(deep > 0 ? 8 : 6);
        if (sort < 3) {
            into.add("" + (to(9) == 0 ? to(9999) : to(4)));
        } else if (sort < 7) {
            into.add(one(VARS));
        } else {
            into.add("(");
            sum(into, deep - 1);
            into.add(")");
        }
    }

    /** A text that has had something done to it, so that it may have a fault. */
    List<String> spoilt() {
        List<String> all = good();
        int times = 1 + to(1);
        for (int i = 0; i < times; i++) {
            int at = all.isEmpty() ? 0 : random.nextInt(all.size());
            switch (to(5)) {
                case 0 -> all.add(at, one(ANY));
                case 1 -> {
                    if (!all.isEmpty()) {
                        all.remove(at);
                    }
                }
                case 2 -> {
                    if (!all.isEmpty()) {
                        all.set(at, one(ANY));
                    }
                }
                case 3 -> all.subList(at, all.size()).clear();
                case 4 -> {
                    if (!all.isEmpty()) {
                        all.set(at, all.get(random.nextInt(all.size())));
                    }
                }
                default -> swapLike(all);
            }
        }
        return all;
    }

    /** Puts a name for a name or a number for a number, so that the fault is none of syntax. */
    private void swapLike(List<String> all) {
        for (int tries = 0; tries < 50 && !all.isEmpty(); tries++) {
            int at = random.nextInt(all.size());
            if (all.get(at).matches("[0-9]+")) {
                all.set(at, one(new String[] {"0", "100", "101", "99", "9999", "00"}));
                return;
            }
            if (at > 0 && all.get(at).matches("[a-z]{1,4}") && !List.of(ANY).subList(0, 23).contains(all.get(at))) {
                all.set(at, one(new String[] {"a", "b", "wa", "ca", "nix", "aown"}));
                return;
            }
        }
    }

    /** The tokens with blanks between them, where there must be some or not. */
    String join(List<String> tokens) {
        StringBuilder s = new StringBuilder(to(6) == 0 ? " " : "");
        String last = "";
        for (String token : tokens) {
            boolean must = last.matches("[a-z]+") && token.matches("[a-z]+") || last.matches("[0-9]+") && token.matches("[0-9]+");
            if (must || to(3) == 0) {
                s.append(to(7) == 0 ? one(BLANKS) : " ");
            }
            s.append(token);
            last = token;
        }
        return s.append(to(4) == 0 ? "\n" : "").toString();
    }
}
