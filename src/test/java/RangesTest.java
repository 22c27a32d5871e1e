import java.util.List;
import java.util.function.Supplier;

/**
 * Each argument of each call at its bounds, just past them and far past them: what is refused, that what is not refused
 * isn't, and that a refused call changes nothing.
 */
public final class RangesTest {
    private static final Check CHECK = new Check("RangesTest");
    private static final Script SCRIPT = new Script(CHECK);
    private static final String FULL = "town a;town b;town c;town d;town e;town f;town g;seam a b 2 9;seam b c 3 9;seam c d 4 9;"
        + "seam d e 5 9;seam e f 6 9;seam f g 7 9;seam g a 8 9;seam a c 9 9;seam b d 9 9;seam c e 9 9;woman h 1;woman i 2;woman j 3;"
        + "cart k a b 1;cart l b c 2;cart m c d 3;cart n d a 4;thread 500;costs=1+new;wears=frosty;toll=load+which;frost 50;seed 3;";
    private static final String SMALL = "town a;town b;seam a b 2 9;woman h 1;cart k a b 1;wears=0;";

    private final Supplier<SewnRoads> make;
    private final String state;
    private final int towns;
    private final int seams;
    private final int carts;
    private final int told;
    private final int bytes;
    private final int slots;

    private RangesTest(String state, Supplier<SewnRoads> make) {
        this.state = state;
        this.make = make;
        SewnRoads x = make.get();
        towns = x.count(0);
        seams = x.count(1);
        carts = x.count(3);
        told = x.count(10);
        bytes = x.count(8);
        slots = x.count(11);
    }

    public static void main(String[] args) {
        new RangesTest("full", RangesTest::full).all();
        new RangesTest("small", RangesTest::small).all();
        new RangesTest("new", SewnRoads::new).all();
        refusedThough();
        wouldBe();
        CHECK.end();
    }

    /** More than forty things done, all slots held, some ways told, bytes on the tape. */
    private static SewnRoads full() {
        SewnRoads x = Check.roads(FULL);
        x.weeks(1);
        x.send(0);
        x.hold(0);
        x.weeks(3);
        x.hold(1);
        for (int i = 0; i < 40; i++) {
            x.sew(i % 10, 1 + i % 3);
        }
        x.unpick(4, 2);
        x.cut(5);
        x.hold(2);
        for (int i = 0; i < 5; i++) {
            x.tell(i, i + 1, 10 * i);
        }
        Check.feed(x, "town x;town x");
        return x;
    }

    private static SewnRoads small() {
        SewnRoads x = Check.roads(SMALL);
        x.sew(0, 3);
        x.hold(0);
        x.hold(1);
        x.hold(2);
        x.tell(0, 1, 0);
        Check.feed(x, ";");
        return x;
    }

    private void all() {
        int[] town = {0, towns - 1};
        int[] seam = {0, seams - 1};
        int[] cart = {0, carts - 1};
        int[] well = {1, 99};
        int[] weeks = {0, 60};
        int[] slot = {0, 2};
        range("back", -1, new int[] {0, bytes});
        range("seam", -1, seam, new int[] {0, 6});
        range("cart", -1, cart, new int[] {0, 7});
        range("toll", -1, seam, new int[] {0, 99});
        range("sew", -1, seam, well);
        range("cut", -1, seam);
        range("unpick", -1, seam, well);
        range("send", 0, cart);
        range("weeks", -1, weeks);
        for (String two : new String[] {"far", "hops", "soon", "surest", "holds"}) {
            range(two, -1, town, town);
        }
        range("joined", -1, town);
        range("takes", -1, seam, well);
        range("sewing", -1, new int[] {0, (1 << towns) - 1}, well, new int[] {0, 1});
        range("march", -1, weeks);
        range("doubles", -1, town, town, well);
        range("then", -1, seam, weeks);
        range("cartIn", -1, cart, weeks, new int[] {0, 2});
        range("year", -1, town, town, weeks, new int[] {1, 20});
        range("tell", -1, town, town, new int[] {0, 999});
        range("cuts", -1, new int[] {0, told}, new int[] {0, 1});
        range("ask", -1, new int[] {0, told});
        range("hold", 0, slot);
        range("restore", 0, slots == 3 ? slot : new int[] {0, -1});
        range("count", -1, new int[] {0, 14});
        oneAndTheSame();
    }

    /** One argument is moved through its range's bounds, while the others stay within theirs. */
    private void range(String name, int refused, int[]... ranges) {
        for (int i = 0; i < ranges.length; i++) {
            int least = ranges[i][0];
            int most = ranges[i][1];
            int[] past = {least - 1, most + 1, Integer.MIN_VALUE, Integer.MAX_VALUE, least - 128, most + 256};
            for (int value : past) {
                refuses(call(name, ranges, i, value), refused);
            }
            if (everyRangeHasSome(ranges)) {
                takes(call(name, ranges, i, least), refused);
                takes(call(name, ranges, i, most), refused);
            }
        }
    }

    private static boolean everyRangeHasSome(int[][] ranges) {
        for (int[] range : ranges) {
            if (range[0] > range[1]) {
                return false;
            }
        }
        return true;
    }

    private String call(String name, int[][] ranges, int moved, int value) {
        StringBuilder s = new StringBuilder(name + "(");
        for (int i = 0; i < ranges.length; i++) {
            int other = ranges[i][0];
            // The other one of two TOWNS is another one.
            if (i < 2 && moved < 2 && i != moved && ranges.length > 1 && ranges[0] == ranges[1] && value == other) {
                other = ranges[i][1];
            } else if (i == 1 && moved > 1 && ranges[0] == ranges[1]) {
                other = ranges[i][1];
            }
            s.append(i > 0 ? ", " : "").append(i == moved ? value : other);
        }
        return s.append(")").toString();
    }

    private void refuses(String call, int refused) {
        SewnRoads x = make.get();
        List<String> before = Sight.now(x);
        CHECK.due(state + ": " + call, Script.answer(x, call), refused);
        same(state + ": " + call + " changed something", x, make.get(), before);
    }

    private void takes(String call, int refused) {
        SewnRoads x = make.get();
        long answer = Script.answer(x, call);
        CHECK.due(state + ": " + call + " is refused: " + answer, answer == refused, false);
    }

    private static void same(String label, SewnRoads x, SewnRoads twin, List<String> before) {
        CHECK.due(label, Sight.now(x).equals(before), true);
        CHECK.due(label, Sight.whole(x).equals(Sight.whole(twin)), true);
    }

    private void oneAndTheSame() {
        for (int town = 0; town < towns; town++) {
            String pair = town + ", " + town;
            SCRIPT.quoted("NONE: no such ones, one and the same TOWN.");
            refuses("surest(" + pair + ")", -1);
            refuses("holds(" + pair + ")", -1);
            refuses("doubles(" + pair + ", 1)", -1);
            refuses("year(" + pair + ", 1, 1)", -1);
            refuses("tell(" + pair + ", 1)", -1);
            takes("far(" + pair + ")", -1);
            takes("hops(" + pair + ")", -1);
            takes("soon(" + pair + ")", -1);
        }
    }

    /** Calls that are within all ranges, but can't be: they change nothing either. */
    private static void refusedThough() {
        SCRIPT.quoted("-2, and nothing happens: none can be");
        twin("sew at 99", "sew(0, 1)", -2, () -> done(SMALL, "sew(0, 99)"));
        twin("sew with too little thread", "sew(0, 99)", -2, () -> done(SMALL + "costs=50;thread 49;", "weeks(1)"));
        twin("sew, forty things done", "sew(0, 1)", -2, () -> done(SMALL + "costs=99;thread 42;", "times 45 unpick(0, 1)", "times 45 weeks(1)"));
        SCRIPT.quoted("CUT: how well it was sewn; -2, and nothing happens: 0; NONE: no such SEAM.");
        twin("cut at 0", "cut(0)", -2, () -> done(SMALL, "times 45 sew(0, 1)", "cut(0)"));
        SCRIPT.quoted("-2, and nothing happens: sewn 0");
        twin("unpick at 0", "unpick(0, 1)", -2, () -> done(SMALL, "times 45 sew(0, 1)", "cut(0)"));
        SCRIPT.quoted("false, and nothing happens: it is on the road, no such CART.");
        twin("send on the road", "send(0)", 0, () -> done(SMALL, "times 45 sew(0, 1)", "send(0)"));
        twin("send on the road, stranded", "send(0)", 0, () -> done(SMALL, "cut(0)", "send(0)", "weeks(2)"));
        SCRIPT.quoted("NONE, and nothing happens: 20 are there, no such ones, one and the same TOWN.");
        twin("tell a 21st", "tell(0, 1, 3)", -1, () -> done(SMALL, "times 20 tell(0, 1, 2)"));
        SCRIPT.quoted("false, and nothing happens: no such one, nothing is held.");
        twin("restore from what holds nothing", "restore(1)", 0, () -> done(SMALL, "sew(0, 3)", "hold(0)", "weeks(1)", "hold(2)", "cut(0)"));
        SCRIPT.quoted("false: there is none (the last 40 can be).");
        twin("undo of nothing", "undo()", 0, () -> done(SMALL, "times 45 sew(0, 1)", "times 40 undo()"));
        SCRIPT.quoted("(0 .. 60; 0 is no thing done)");
        twin("weeks(0)", "weeks(0)", 1, () -> done(SMALL, "weeks(1)"));
        twin("weeks(0), forty things done", "weeks(0)", 0, () -> done(SMALL, "times 45 unpick(0, 1)", "times 45 sew(0, 1)"));
        SCRIPT.quoted("NONE, and nothing comes, if it would have more than 2,000.");
        twin("feed past 2,000", "feed(1, 2, 3, 4, 5)", -1, () -> done(SMALL, "times 100 feed(538976288, 0, 0, 0, 0)", "back(19)"));
        SCRIPT.quoted("NONE, and nothing goes, if it has not so many, or n is below 0.");
        twin("back past the tape", "back(1)", -1, () -> done(SMALL, "sew(0, 1)"));
        SCRIPT.quoted("A text with a FAULT changes nothing but the tape");
        faultyText("town x;town y;town x;", 3);
        faultyText("seed 1;costs=5;wears=9;thread 5;town", 1);
        faultyText("woman a 9;woman b 9;woman c 9;woman d 9;", 2);
        faultyText("town a;town b;town c;seam a b 9 9;seam a d 3 3;", 4);
        faultyText("frost 101;", 5);
    }

    private static void faultyText(String text, int number) {
        SewnRoads x = full();
        SewnRoads twin = full();
        x.back(x.count(8));
        twin.back(twin.count(8));
        CHECK.due("read() of <" + text + ">", Check.read(x, text), number);
        // The latest read()'s FAULT is all else that is seen: the twin has one at the same place.
        Check.read(twin, " ".repeat(x.place()) + "?");
        List<String> before = Sight.now(twin);
        same("read() of <" + text + "> changed something", x, twin, before);
    }

    private static SewnRoads done(String text, String... calls) {
        SewnRoads x = Check.roads(text);
        for (String call : calls) {
            String[] words = call.split(" ", 3);
            int times = call.startsWith("times") ? Integer.parseInt(words[1]) : 1;
            for (int i = 0; i < times; i++) {
                Script.answer(x, call.startsWith("times") ? words[2] : call);
            }
        }
        return x;
    }

    private static void twin(String label, String call, long want, Supplier<SewnRoads> make) {
        SewnRoads x = make.get();
        List<String> before = Sight.now(x);
        CHECK.due(label + ": " + call, Script.answer(x, call), want);
        same(label + ": " + call + " changed something", x, make.get(), before);
    }

    /** What would be is asked for, and nothing happens. */
    private static void wouldBe() {
        SCRIPT.quoted("What would be (nothing happens).");
        String[] calls = {"far(0, 4)", "hops(0, 4)", "joined(3)", "hangs()", "takes(3, 99)", "sewing(127, 99, 0)", "sewing(127, 99, 1)",
            "surest(0, 4)", "soon(0, 4)", "holds(0, 4)", "rows()", "march(60)", "doubles(0, 4, 99)", "then(3, 60)", "cartIn(0, 60, 0)",
            "cartIn(1, 60, 1)", "cartIn(2, 60, 2)", "year(0, 4, 60, 20)", "cuts(5, 0)", "cuts(5, 1)", "ask(5)", "ask(0)", "place()",
            "count(9)", "seam(3, 5)", "cart(3, 5)", "toll(3, 99)", "back(0)"};
        for (String call : calls) {
            SewnRoads x = full();
            List<String> before = Sight.now(x);
            Script.answer(x, call);
            same(call + " changed something", x, full(), before);
        }
        // Held is what goes on: hold itself changes nothing but its SLOT.
        SewnRoads x = full();
        x.hold(2);
        same("hold(2) changed something", x, full(), Sight.now(full()));
    }
}
