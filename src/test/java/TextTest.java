/** Promises 1 to 5: the tape, the text, its tokens and its faults; and the laws. */
public final class TextTest {
    private static final Check CHECK = new Check("TextTest");
    private static final Script SCRIPT = new Script(CHECK);

    public static void main(String[] args) {
        newObject();
        tape();
        syntax();
        tokens();
        room();
        twice();
        names();
        wrong();
        whichFaultIsFirst();
        faultyTextChangesNothing();
        goodTextIsInPlace();
        defaults();
        laws();
        lawsVars();
        CHECK.end();
    }

    private static void fault(int number, int place, String text) {
        SewnRoads x = new SewnRoads();
        SCRIPT.fault(4, x, number, place, text);
        CHECK.due("promise 4: count(8) behind read()", x.count(8), 0);
    }

    private static void newObject() {
        SewnRoads x = new SewnRoads();
        for (int what = -1; what <= 15; what++) {
            CHECK.due("promise 1: count(" + what + ")", x.count(what), what == 5 ? 100 : what < 0 || what > 14 ? -1 : 0);
        }
        SCRIPT.run(1, """
            place() = -1
            seam(0, 0) = -1
            cart(0, 0) = -1
            joined(0) = -1
            undo() = 0
            restore(0) = 0
            rows() = 0
            hangs() = 0
            march(0) = -2
            sewing(0, 1, 0) = 0
            cuts(0, 0) = 0
            ask(0) = -2
            weeks(60) = 60
            """);
    }

    private static void tape() {
        SewnRoads x = new SewnRoads();
        CHECK.due("promise 3: back(0)", x.back(0), 0);
        CHECK.due("promise 3: back(1)", x.back(1), -1);
        for (int i = 1; i <= 100; i++) {
            CHECK.due("promise 2: feed " + i, x.feed(0x20202020, 0x20202020, 0x20202020, 0x20202020, 0x20202020), 20 * i);
        }
        CHECK.due("promise 2: a 2,001st byte", x.feed(0, 0, 0, 0, 0), -1);
        CHECK.due("promise 2: count(8)", x.count(8), 2000);
        CHECK.due("promise 3: back(2001)", x.back(2001), -1);
        CHECK.due("promise 3: back(-1)", x.back(-1), -1);
        CHECK.due("promise 3: back of the least int", x.back(Integer.MIN_VALUE), -1);
        CHECK.due("promise 3: back of the most", x.back(Integer.MAX_VALUE), -1);
        CHECK.due("promise 3: back(19)", x.back(19), 1981);
        CHECK.due("promise 2: a 2,001st byte", x.feed(0, 0, 0, 0, 0), -1);
        CHECK.due("promise 3: back(1)", x.back(1), 1980);
        CHECK.due("promise 2: the 2,000th byte", x.feed(0x20202020, 0x20202020, 0x20202020, 0x20202020, 0x20202020), 2000);
        CHECK.due("promise 4: blanks alone", x.read(), 0);
        CHECK.due("promise 4: the tape is empty then", x.count(8), 0);
        CHECK.due("promise 3: back(1) of an empty tape", x.back(1), -1);
        // "town", " a; ", "town", " b; ", "    ": the highest byte of a is first.
        CHECK.due("promise 2: feed", x.feed(0x746f776e, 0x20613b20, 0x746f776e, 0x20623b20, 0x20202020), 20);
        CHECK.due("promise 3: back(12)", x.back(12), 8);
        CHECK.due("promise 4: read()", x.read(), 0);
        CHECK.due("promise 4: TOWNS", x.count(0), 1);
        CHECK.due("promise 2: feed", x.feed(0x746f776e, 0x20613b20, 0x746f776e, 0x20623be9, 0x20202020), 20);
        CHECK.due("promise 4: a byte above 127", x.read(), 1);
        CHECK.due("promise 5: its place", x.place(), 15);
    }

    private static void syntax() {
        fault(0, -1, "");
        fault(0, -1, " \\t\\r\\n");
        fault(1, 4, "town");
        fault(1, 6, "town  ");
        fault(1, 6, "town a");
        fault(1, 0, "towna;");
        fault(1, 0, "a");
        fault(1, 0, ";");
        fault(1, 0, "12town a;");
        fault(1, 0, "if");
        fault(1, 5, "town seam;");
        fault(1, 5, "town 5;");
        fault(1, 7, "town a b;");
        fault(1, 7, "town a;;");
        fault(1, 10, "seam a b 1;");
        fault(1, 7, "seam a 1 1;");
        fault(1, 13, "seam a b 1 1 1;");
        fault(1, 7, "woman w;");
        fault(1, 10, "woman w 1 1;");
        fault(1, 10, "cart c a b;");
        fault(1, 9, "cart c a 1;");
        fault(1, 9, "thread 5 5;");
        fault(1, 7, "thread ;");
        fault(1, 6, "frost -1;");
        fault(1, 5, "seed week;");
        fault(1, 6, "costs 1;");
        fault(1, 8, "costs = ;");
        fault(1, 8, "costs = a;");
        fault(1, 8, "costs = -1;");
        fault(1, 8, "costs = then 1;");
        fault(1, 10, "costs = 1 2;");
        fault(1, 10, "costs = 1 < 2;");
        fault(1, 10, "costs = 1 else 2;");
        fault(1, 10, "costs = 1 if 1 < 2 then 3 else 4;");
        fault(1, 12, "costs = 1 + ;");
        fault(1, 12, "costs = 1 + * 2;");
        fault(1, 10, "costs = (1;");
        fault(1, 9, "costs = 1);");
        fault(1, 9, "costs = ();");
        fault(1, 10, "costs = 2 (1);");
        fault(1, 9, "costs = (if 1 < 2 then 3 else 4);");
        fault(1, 13, "costs = if 1 then 2 else 3;");
        fault(1, 17, "costs = if 1 < 2 < 3 then 4 else 5;");
        fault(1, 21, "costs = if 1<2 then 3;");
        fault(1, 27, "costs = if 1<2 then 3 else ;");
        fault(1, 22, "wears = 1; puckers = 2, toll = 3;");
        fault(0, -1, "costs=if 1<2 then 3 else if(1)<(2)then(3)else(4);");
    }

    private static void tokens() {
        fault(0, -1, "town abcdefgh;");
        fault(1, 5, "town abcdefghi;");
        fault(1, 5, "town abcdefghijklmnopqrstuvwxyzabcdefghijklmnopqrstuvwxyz;");
        fault(0, -1, "seed 0012;");
        fault(1, 5, "seed 00012;");
        fault(1, 5, "seed 12345;");
        fault(1, 5, "town A;");
        fault(1, 6, "town aA;");
        fault(1, 6, "town a.");
        fault(1, 6, "town a,");
        fault(1, 0, "Town a;");
        fault(1, 5, "town \\x00;");
        fault(1, 4, "town\\x0Ba;");
        fault(1, 4, "town\\x0Ca;");
        fault(1, 5, "town \\xE9;");
        fault(1, 5, "town {;");
        fault(1, 5, "town `;");
        fault(1, 5, "seed :;");
        fault(0, -1, "town\\ta\\r\\n;\\n");
        fault(0, -1, "town a;town b;seam a b1 1;");
        fault(0, -1, "town a;town b;town x;seam a b 5 5;cart c a b5;seed 7;");
        for (String word : ("town seam woman cart costs wears puckers toll thread frost seed if then else length sewn week frosty "
            + "carted which load new ways").split(" ")) {
            fault(1, 5, "town " + word + ";");
            fault(0, -1, "town " + word + "x;");
            if (!word.equals("frosty")) {
                fault(0, -1, "town " + word.substring(0, word.length() - 1) + ";");
            }
        }
    }

    private static String towns(int n) {
        StringBuilder s = new StringBuilder();
        for (int i = 0; i < n; i++) {
            s.append("town ").append((char) ('a' + i)).append(';');
        }
        return s.toString();
    }

    private static void room() {
        fault(0, -1, towns(7));
        fault(2, 49, towns(8));
        fault(2, 49, towns(7) + "town");
        fault(2, 49, towns(7) + "town;");
        fault(1, 49, towns(7) + "towns;");
        fault(2, 130, "seam a b 1 1;".repeat(11));
        fault(4, 5, "seam a b 1 1;".repeat(10));
        fault(2, 30, "woman w 1;".repeat(4));
        fault(3, 16, "woman w 1;".repeat(3));
        fault(2, 52, "cart c a b 1;".repeat(5));
        fault(4, 7, "cart c a b 1;".repeat(4));
        String ifs = "if 1<2 then 3 else ";
        fault(0, -1, "costs = " + ifs.repeat(4) + "1;");
        fault(0, -1, "costs = " + ifs.repeat(4) + "1; wears = " + ifs.repeat(4) + "1;");
        fault(2, 84, "costs = " + ifs.repeat(5) + "1;");
        fault(2, 84, "costs = " + ifs.repeat(4) + "if");
        fault(0, -1, "costs = ((((((1))))));");
        fault(0, -1, "costs = ((((((1))))))+((((((1))))))*(1);");
        fault(0, -1, "costs = if ((((((1))))))<((((((1)))))) then ((((((2)))))) else ((((((1))))));");
        fault(2, 14, "costs = (((((((1)))))));");
        fault(2, 14, "costs = (((((((");
        fault(1, 15, "costs = ((((((1(");
        fault(2, 24, "costs = ((((((1))))+(((((1");
        String seed = "seed 1;";
        fault(0, -1, seed.repeat(132) + "costs = 1;");
        fault(1, 934, seed.repeat(132) + "costs = 1;;");
        fault(2, 934, seed.repeat(132) + "costs = 1;seed 1;");
        fault(2, 936, seed.repeat(134));
        fault(1, 935, seed.repeat(133) + "seed");
        fault(1, 936, seed.repeat(133) + "seed A");
        fault(1, 936, seed.repeat(133) + "seed ;");
        fault(2, 936, seed.repeat(200));
        // 400 tokens in one law, and the 401st in it.
        fault(0, -1, "costs = 1" + "+1".repeat(198) + ";");
        fault(2, 406, "costs = 1" + "+1".repeat(198) + "+1;");
        fault(1, 405, "costs = 1" + "+1".repeat(198) + ")");
    }

    private static void twice() {
        fault(3, 13, "town a; town a;");
        fault(3, 14, "town a; woman a 1;");
        fault(3, 16, "woman a 1; town a;");
        fault(3, 17, "woman a 1; woman a 1;");
        fault(3, 21, "town a; town b; cart a a b 1;");
        fault(3, 35, "town a; town b; cart c a b 1; cart c a b 1;");
        fault(3, 36, "town a; town b; cart c a b 1; woman c 1;");
        fault(3, 15, "town a; seam a a 1 1;");
        fault(3, 37, "town a; town b; seam a b 1 1; seam a b 2 2;");
        fault(3, 37, "town a; town b; seam a b 1 1; seam b a 2 2;");
        fault(3, 17, "town a; cart c a a 1;");
        fault(0, -1, "town a; town b; cart c a b 1; cart d a b 1; cart e b a 1;");
        String names = towns(7) + "woman h 1;woman i 1;woman j 1;cart k a b 1;cart l a b 1;cart m a b 1;";
        fault(0, -1, names + "cart n a b 1;");
        for (char name = 'a'; name <= 'm'; name++) {
            fault(3, 123, names + "cart " + name + " a b 1;");
        }
    }

    private static void names() {
        fault(4, 5, "seam a b 1 1;");
        fault(4, 15, "town a; seam a b 1 1;");
        fault(4, 13, "town a; seam b a 1 1;");
        fault(4, 15, "town a; seam a b 1 1; town b;");
        fault(4, 26, "town a; woman w 1; seam a w 1 1;");
        fault(4, 7, "cart c a b 1;");
        fault(4, 17, "town a; cart c a b 1;");
        fault(4, 17, "town a; cart c a c 1;");
        fault(4, 15, "town a; cart c c a 1;");
        fault(4, 5, "seam z z 1 1;");
        fault(4, 13, "town a; seam aa a 1 1;");
    }

    private static void wrong() {
        String two = "town a; town b; ";
        fault(5, 25, two + "seam a b 0 5;");
        fault(5, 25, two + "seam a b 100 5;");
        fault(5, 27, two + "seam a b 1 100;");
        fault(0, -1, two + "seam a b 1 0;");
        fault(0, -1, two + "seam a b 99 99;");
        fault(5, 8, "woman w 0;");
        fault(5, 8, "woman w 100;");
        fault(0, -1, "woman w 99; woman v 1;");
        fault(5, 27, two + "cart c a b 100;");
        fault(0, -1, two + "cart c a b 99; cart d a b 0;");
        fault(5, 6, "frost 101;");
        fault(5, 6, "frost 101; frost 5;");
        fault(0, -1, "frost 100; frost 0;");
        fault(0, -1, "thread 9999; thread 0; seed 9999; seed 0;");
        fault(0, -1, "costs = 9999 + 0;");
    }

    private static void whichFaultIsFirst() {
        fault(5, 6, "frost 101; town a; town a;");
        fault(3, 13, "town a; town a; frost 101;");
        fault(1, 15, "frost 101; town");
        fault(2, 60, "frost 101; " + towns(8));
        fault(1, 13, "town a; town ;" + towns(8));
        fault(4, 5, "seam a b 0 100;");
        fault(4, 15, "town a; seam a b 0 100;");
        fault(3, 15, "town a; seam a a 0 100;");
        fault(3, 21, "town a; town b; cart a x x 100;");
        fault(5, 8, "woman w 0; woman w 0;");
        fault(2, 49, towns(8) + "seam a a 0 100; town");
    }

    private static void faultyTextChangesNothing() {
        SCRIPT.run(4, """
            text town a; town b; seam a b 7 3; woman w 4; cart c a b 5; thread 50; costs = 2;
            sew(0, 1) = 1
            send(0) = 1
            hold(1) = 1
            tell(0, 1, 7) = 0
            fault 3 29 town x; town y; town z; town x; costs = 9; thread 1; wears = 5; frost 100; seed 5;
            count(0) = 2
            count(1) = 1
            count(2) = 1
            count(3) = 1
            count(5) = 48
            count(7) = 1
            count(8) = 0
            count(9) = 2
            count(10) = 1
            count(11) = 1
            count(12) = 0
            count(13) = 4
            seam(0, 2) = 7
            seam(0, 3) = 4
            seam(0, 4) = 2
            seam(0, 5) = 1
            fault 1 0 .
            place() = 0
            undo() = 1
            restore(1) = 1
            count(7) = 1
            """);
    }

    private static void goodTextIsInPlace() {
        SCRIPT.run(4, """
            text town a; town b; seam a b 7 3; woman w 4; cart c a b 5; thread 50; costs = 2; wears = 3; puckers = 4; toll = 5;
            seam(0, 6) = 3
            toll(0, 1) = 5
            send(0) = 1
            weeks(2) = 2
            hold(0) = 1
            tell(0, 1, 7) = 0
            fault 1 0 ?
            place() = 0
            text town a; town b; town c; seam b c 8 9; cart d b c 6;
            place() = -1
            count(0) = 3
            count(1) = 1
            count(2) = 0
            count(3) = 1
            count(4) = 0
            count(5) = 100
            count(7) = 0
            count(9) = 0
            count(10) = 0
            count(11) = 0
            count(13) = 0
            seam(0, 0) = 1
            seam(0, 3) = 9
            seam(0, 4) = 1
            seam(0, 5) = 1
            seam(0, 6) = 8
            toll(0, 1) = 8
            cart(0, 3) = 1
            cart(0, 5) = 0
            cart(0, 7) = 0
            undo() = 0
            restore(0) = 0
            fault 0 -1
            count(0) = 0
            count(1) = 0
            """);
    }

    private static void defaults() {
        SCRIPT.run(4, """
            text town a; town b; seam a b 7 0;
            count(5) = 100
            seam(0, 4) = 1
            seam(0, 5) = 1
            seam(0, 6) = 7
            toll(0, 99) = 7
            count(12) = 0
            """);
        SCRIPT.run(4, """
            text thread 5; thread 6; costs = 1; town a; town b; seam a b 9 9; costs = 2; frost 100; frost 0; seed 8; seed 7;
            count(5) = 6
            seam(0, 4) = 2
            count(12) = 0
            """);
    }

    /** What a law says, as COSTS of a seam. */
    private static void law(String law, int want) {
        SewnRoads x = Check.roads("town a; town b; seam a b 7 5; costs = " + law + ";");
        CHECK.due("laws: " + law, x.seam(0, 4), want);
    }

    private static void laws() {
        law("9999", 99);
        law("100", 99);
        law("99", 99);
        law("0-5", 0);
        law("2+3*4-10/3", 11);
        law("20-5-3", 12);
        law("100/5/2", 10);
        law("7*2/3", 4);
        law("7/1*1", 7);
        law("0" + "+0".repeat(191) + "+7", 7);
        law("7" + "-0".repeat(191) + "*1", 7);
        law("if 0" + "+0".repeat(92) + "<1 then 7" + "+0".repeat(96) + " else 1", 7);
        law("7/3*2", 4);
        law("(2+3)*4", 20);
        law("2*(3+4)*(1+1)", 28);
        law("((((((1+2))))))*3", 9);
        law("(0-7)/2+5", 2);
        law("7/(0-2)+5", 2);
        law("9999*9999*30", 0);
        law("0-9999*9999*30", 99);
        law("if 9999*9999*30 < 0 then 3 else 4", 3);
        law("(0-2)*8192*8192*16/(0-1)+8", 0);
        law("if 1<1 then 5 else if 1<2 then 6 else if 1<2 then 7 else 8", 6);
        law("if 1<1 then 5 else if 2<1 then 6 else 8", 8);
        law("if 1<2 then 5 else 8", 5);
        law("if 1<1 then 5 else if 1<1 then 6 else if 1<1 then 7 else if 0-1<0 then 9 else 8", 9);
        law("1/0+5", 0);
        law("9+0*(1/0)", 0);
        law("5/(sewn-5)", 0);
        law("if 1<2 then 5 else 1/0", 5);
        law("if 2<1 then 1/0 else 6", 6);
        law("if 1/0<1 then 5 else 7", 0);
        law("if 0<1/0 then 5 else 7", 0);
        law("if 2<1 then 3 else if 1/0<1 then 5 else 7", 0);
        law("if 1<2 then 3 else if 1/0<1 then 5 else 7", 3);
        law("if 1<2 then 1/0 else 7", 0);
        law("0/5+3", 3);
        law("length*10+sewn", 75);
        law("length - sewn - 2", 0);
        law("1+2*(3+4*(5+6*(1+1*(1+1*(1+1)))))-200", 39);
        law("1+(3+4*(5+1*(1+1*(1+1*(1+1)))))", 40);
    }

    private static void lawsVars() {
        String text = "town a; town b; town c; seam b a 7 5; seam c b 9 0; ";
        for (String law : new String[] {"costs", "wears", "puckers", "toll"}) {
            int what = law.equals("costs") ? 4 : law.equals("wears") ? 5 : 6;
            int[][] want = {{7, 9}, {5, 0}, {3, 3}, {0, 0}, {0, 0}, {0, 1}, {0, 0}, {0, 0}, {2, 1}};
            String[] vars = {"length", "sewn", "week", "frosty", "carted", "which", "load", "new", "ways"};
            for (int v = 0; v < vars.length; v++) {
                SewnRoads x = Check.roads(text + "frost 100; " + (law.equals("wears") ? "wears = if week < 3 then 0 else "
                    : "wears = 0; " + law + " = ") + vars[v] + ";");
                x.weeks(3);
                for (int seam = 0; seam < 2; seam++) {
                    int due = want[v][seam];
                    due = law.equals("costs") && v == 7 ? seam : due;
                    due = law.equals("toll") && v == 6 ? 44 : due;
                    int got = law.equals("toll") ? x.toll(seam, 44) : x.seam(seam, what);
                    due = law.equals("puckers") ? Math.max(1, x.seam(seam, 2) - due) : due;
                    CHECK.due("laws: " + law + " = " + vars[v] + " of seam " + seam, got, due);
                }
            }
        }
    }
}
