import java.lang.reflect.Method;
import java.util.ArrayList;
import java.util.List;
import java.util.Random;

/** The class beside the slow model: texts and runs of calls by seeds, each answer the same. */
public final class ModelTest {
    private static final int RUNS = 1500;
    private static final int CALLS = 45;
    private static final int SPOILT = 6000;

    // A call's name, and what its arguments are, a letter each.
    private static final String[] CALLS_OF = {
        "feed iiiii", "back b", "place", "seam sw", "seam sw", "cart cw", "cart cw", "toll sl", "sew sx", "sew sx", "cut s",
        "unpick sx", "send c", "send c", "send c", "weeks n", "weeks n", "undo", "far tt", "far tt", "hops tt", "joined t",
        "hangs", "takes sx", "sewing Txp", "surest tt", "soon tt", "holds tt", "rows", "march n", "doubles ttx", "then sn",
        "cartIn cnq", "year ttny", "tell ttm", "tell ttm", "tell ttm", "forget", "cuts kp", "cuts kp", "ask k", "hold o",
        "restore o", "count v", "count v", "count v"};

    private final Check check = new Check("ModelTest");
    private final Method[] mine = new Method[CALLS_OF.length];
    private final Method[] models = new Method[CALLS_OF.length];
    private Random random;

    public static void main(String[] args) throws ReflectiveOperationException {
        new ModelTest().all();
    }

    private void all() throws ReflectiveOperationException {
        for (int i = 0; i < CALLS_OF.length; i++) {
            String[] spec = CALLS_OF[i].split(" ");
            Class<?>[] types = new Class<?>[spec.length > 1 ? spec[1].length() : 0];
            java.util.Arrays.fill(types, int.class);
            mine[i] = SewnRoads.class.getMethod(spec[0], types);
            models[i] = Model.class.getDeclaredMethod(spec[0], types);
        }
        for (int seed = 0; seed < SPOILT; seed++) {
            random = new Random(1000000 + seed);
            spoilt(seed);
        }
        for (int seed = 0; seed < RUNS; seed++) {
            random = new Random(seed);
            run(seed);
        }
        check.end();
    }

    private void read(String run, SewnRoads x, Model m, String text) {
        Check.feed(x, text);
        for (char c : text.toCharArray()) {
            m.tape.add((int) c);
        }
        int fault = m.read();
        check.due(run + " read() of <" + text + ">", x.read(), fault);
        check.due(run + " place() of <" + text + ">", x.place(), m.place());
    }

    private void spoilt(int seed) {
        SewnRoads x = new SewnRoads();
        Model m = new Model();
        Writer writer = new Writer(random);
        read("spoilt " + seed, x, m, writer.join(writer.spoilt()));
        for (int what = 0; what < 15; what++) {
            check.due("spoilt " + seed + " count(" + what + ")", x.count(what), m.count(what));
        }
    }

    private void run(int seed) throws ReflectiveOperationException {
        SewnRoads x = new SewnRoads();
        Model m = new Model();
        Writer writer = new Writer(random);
        String text = writer.join(writer.good());
        read("run " + seed, x, m, text);
        List<String> done = new ArrayList<>();
        for (int i = 0; i < CALLS; i++) {
            if (random.nextInt(150) == 0) {
                x.back(x.count(8));
                m.tape.clear();
                read("run " + seed, x, m, writer.join(random.nextInt(3) > 0 ? writer.spoilt() : writer.good()));
            }
            int which = random.nextInt(CALLS_OF.length);
            String[] spec = CALLS_OF[which].split(" ");
            Object[] args = arguments(spec.length > 1 ? spec[1] : "", m);
            Object got = mine[which].invoke(x, args);
            Object want = models[which].invoke(m, args);
            done.add(spec[0] + java.util.Arrays.toString(args));
            check.due("run " + seed + " <" + text + "> " + done, number(got), number(want));
            if (number(got) != number(want)) {
                return;
            }
        }
        state("run " + seed, x, m);
    }

    /** All that can be seen of how things are. */
    private void state(String run, SewnRoads x, Model m) {
        for (int what = 0; what < 15; what++) {
            check.due(run + " end count(" + what + ")", x.count(what), m.count(what));
        }
        for (int i = 0; i < 10; i++) {
            for (int what = 0; what < 8; what++) {
                check.due(run + " end seam(" + i + ", " + what + ")", x.seam(i, what), m.seam(i, what));
                check.due(run + " end cart(" + i + ", " + what + ")", x.cart(i, what), m.cart(i, what));
            }
        }
    }

    private static long number(Object answer) {
        return answer instanceof Boolean b ? b ? 1 : 0 : (Integer) answer;
    }

    private Object[] arguments(String letters, Model m) {
        Object[] args = new Object[letters.length()];
        for (int i = 0; i < args.length; i++) {
            args[i] = random.nextInt(60) == 0 ? odd() : argument(letters.charAt(i), m);
        }
        // Ways that are so behind some cut, so that what is known leaves something.
        if (letters.equals("ttm") && random.nextInt(4) > 0 && m.text.seams.size() > 0) {
            int cut = random.nextInt(m.text.seams.size());
            int a = (Integer) args[0];
            int b = (Integer) args[1];
            if (a >= 0 && b >= 0 && a < m.text.towns && b < m.text.towns) {
                Model.World w = m.now.copy();
                w.sewn[cut] = 0;
                args[2] = (int) Math.max(0, m.far(w, a, b));
            }
        }
        return args;
    }

    private int odd() {
        int[] odd = {-1, -2, 7, 8, 10, 40, 41, 60, 61, 99, 100, 1000, Integer.MAX_VALUE, Integer.MIN_VALUE};
        return odd[random.nextInt(odd.length)];
    }

    private int below(int n) {
        return n <= 0 ? 0 : random.nextInt(n);
    }

    private int argument(char letter, Model m) {
        switch (letter) {
            case 't': return below(m.text.towns);
            case 'T': return below(1 << m.text.towns);
            case 's': return below(m.text.seams.size());
            case 'c': return below(m.text.carts.size());
            case 'w': return random.nextInt(8);
            case 'l': return random.nextInt(100);
            case 'x': return 1 + below(random.nextInt(3) == 0 ? 99 : 9);
            case 'n': return below(random.nextInt(8) == 0 ? 61 : 6);
            case 'y': return 1 + below(random.nextInt(3) == 0 ? 20 : 3);
            case 'p': return random.nextInt(2);
            case 'q': return random.nextInt(3);
            case 'm': return random.nextInt(4) == 0 ? 0 : 1 + random.nextInt(120);
            case 'k': return below(m.told.size() + 1);
            case 'o': return random.nextInt(3);
            case 'v': return random.nextInt(16);
            case 'b': return below(30);
            default: return random.nextInt();
        }
    }
}
