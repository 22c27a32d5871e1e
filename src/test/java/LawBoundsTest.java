/** The sentences under II that name a bound: laws, frosts and the lot, a week. */
public final class LawBoundsTest {
    private static final Check CHECK = new Check("LawBoundsTest");
    private static final Script SCRIPT = new Script(CHECK);
    // A power of two that has no place in 32 bits but as the least int.
    private static final String LEAST = "8192*8192*32";

    public static void main(String[] args) {
        firstIfThatHolds();
        intsWrap();
        roundedTowardsZero();
        dividedByZero();
        varsNotTold();
        ways();
        newStitch();
        heldTo();
        wayIsOneAtLeast();
        frost();
        wholeSeam();
        cartsWay();
        cartsStranded();
        cartIsThere();
        wearsZeroAtLeast();
        nothingCartedYet();
        CHECK.end();
    }

    /** What a law says, as COSTS of a seam that is 7 long and sewn 5. */
    private static void law(String sentence, String law, int want) {
        SCRIPT.says(6, sentence, "text town a; town b; seam a b 7 5; costs = " + law + ";\nseam(0, 4) = " + want);
    }

    private static void firstIfThatHolds() {
        String sentence = "the E of the first if that holds (one less than the other), else the last one";
        law(sentence, "if 1 < 2 then 5 else 8", 5);
        law(sentence, "if 2 < 2 then 5 else 8", 8);
        law(sentence, "if 3 < 2 then 5 else 8", 8);
        law(sentence, "if 0-1 < 0 then 5 else 8", 5);
        law(sentence, "if 1 < 2 then 5 else if 1 < 2 then 6 else 8", 5);
        law(sentence, "if 1 < 1 then 5 else if 1 < 2 then 6 else 8", 6);
        law(sentence, "if 1 < 1 then 5 else if 1 < 1 then 6 else if 1 < 1 then 7 else if 0 < 1 then 4 else 8", 4);
        law(sentence, "if 1 < 1 then 5 else if 1 < 1 then 6 else if 1 < 1 then 7 else if 1 < 1 then 4 else 8", 8);
        // Less by more than an int can tell as a difference.
        law(sentence, "if " + LEAST + " < " + LEAST + "-1 then 5 else 8", 5);
        law(sentence, "if " + LEAST + "-1 < " + LEAST + " then 5 else 8", 8);
    }

    private static void intsWrap() {
        String sentence = "ints of 32 bits that wrap";
        law(sentence, "if " + LEAST + " < 0 then 5 else 8", 5);
        law(sentence, "if 0 < " + LEAST + " - 1 then 5 else 8", 5);
        law(sentence, "if " + LEAST + " - 1 + 1 < 0 then 5 else 8", 5);
        law(sentence, LEAST + " + " + LEAST + " + 5", 5);
        law(sentence, "if 0 - " + LEAST + " < 0 then 5 else 8", 5);
        law(sentence, "if " + LEAST + " / (0-1) < 0 then 5 else 8", 5);
        law(sentence, LEAST + " * 2 + 9", 9);
        law(sentence, "8192*8192*64 + 9", 9);
        law(sentence, "9999*9999*43/1000/100", 41);
        law(sentence, "(" + LEAST + " - 1) / 8192 / 8192", 31);
        law(sentence, "0 - " + LEAST + " / 8192 / 8192", 32);
    }

    private static void roundedTowardsZero() {
        String sentence = "/ rounded towards 0";
        law(sentence, "7/2", 3);
        law(sentence, "(0-7)/2 + 10", 7);
        law(sentence, "7/(0-2) + 10", 7);
        law(sentence, "(0-7)/(0-2)", 3);
        law(sentence, "(0-1)/2 + 10", 10);
        law(sentence, "1/2 + 10", 10);
        law(sentence, "(0-8)/2 + 10", 6);
    }

    private static void dividedByZero() {
        String sentence = "a LAW in which something that is looked at is divided by 0 is 0";
        law(sentence, "5/0", 0);
        law(sentence, "0/0", 0);
        law(sentence, "5 + 1/0", 0);
        law(sentence, "1/0 + 5", 0);
        law(sentence, "5 + 0*(1/0)", 0);
        law(sentence, "9/(sewn-5) + 3", 0);
        law(sentence, "9/(sewn-4) + 3", 12);
        law(sentence, "7 + 5/(1/2)", 0);
        law(sentence, "0/5 + 3", 3);
        law(sentence, "if 1/0 < 5 then 6 else 7", 0);
        law(sentence, "if 0-5 < 1/0 then 6 else 7", 0);
        law(sentence, "if 1 < 2 then 1/0 else 7", 0);
        law(sentence, "if 2 < 1 then 6 else 1/0", 0);
        law(sentence, "if 2 < 1 then 6 else if 1/0 < 1 then 5 else 7", 0);
        // What is not looked at.
        law(sentence, "if 1 < 2 then 6 else 1/0", 6);
        law(sentence, "if 2 < 1 then 1/0 else 7", 7);
        law(sentence, "if 1 < 2 then 6 else if 1/0 < 1 then 5 else 7", 6);
        law(sentence, "if 2 < 1 then 1/0 else if 1 < 2 then 8 else 1/0", 8);
        SCRIPT.says(6, sentence, """
            text town a; town b; seam a b 7 5; costs = 5+1/0; wears = 5+1/0; puckers = 5+1/0; toll = 5+1/0;
            seam(0, 4) = 0
            seam(0, 5) = 0
            seam(0, 6) = 7
            toll(0, 9) = 0
            weeks(1) = 1
            seam(0, 3) = 5
            sew(0, 99) = 94
            count(5) = 100
            """);
    }

    /** Each VAR in each law, in week 3, in a FROST, with a cart on the road, of a seam that is sewn and of one that is not. */
    private static void varsNotTold() {
        SCRIPT.quoted("a VAR not told for a LAW is 0 in it; week for all.");
        String[] vars = {"length", "sewn", "week", "frosty", "carted", "which", "load", "new", "ways"};
        int[][] want = {{7, 9}, {5, 0}, {3, 3}, {0, 0}, {0, 0}, {1, 2}, {0, 0}, {0, 0}, {3, 1}};
        String[] laws = {"costs", "wears", "puckers", "toll"};
        for (int law = 0; law < 4; law++) {
            for (int v = 0; v < vars.length; v++) {
                String text = "town a; town b; town c; town d; seam b d 4 50; seam b a 7 5; seam c b 9 0; cart x b d 8; frost 100; wears = 0; ";
                SewnRoads x = Check.roads(text + laws[law] + " = if week < 3 then 0 else " + vars[v] + ";");
                x.weeks(3);
                x.send(0);
                for (int seam = 1; seam <= 2; seam++) {
                    int said = want[v][seam - 1];
                    said = vars[v].equals("new") && law == 0 ? seam - 1 : said;
                    said = vars[v].equals("load") && law == 3 ? 44 : said;
                    int due = law == 2 ? Math.max(1, x.seam(seam, 2) - said) : said;
                    int got = law == 3 ? x.toll(seam, 44) : x.seam(seam, 4 + law);
                    CHECK.due("laws: " + laws[law] + " = " + vars[v] + " of seam " + seam, got, due);
                }
            }
        }
        // What wears, and what is paid, in a week in which there are a FROST and a CART: new, load; frosty, carted.
        SCRIPT.says(13, "a VAR not told for a LAW is 0 in it; week for all.", """
            text town a; town b; seam a b 7 90; cart c a b 8; frost 100; wears = new*50+load+2; toll = frosty*50+carted+new*20+3;
            send(0) = 1
            weeks(1) = 1
            seam(0, 3) = 88
            cart(0, 5) = 3
            """);
        // What one law was told ahead is not told to the next one.
        SCRIPT.says(6, "a VAR not told for a LAW is 0 in it; week for all.", """
            text town a; town b; town c; seam a b 7 90; seam b c 7 0; cart x a b 8; frost 100; \
            costs = new*9+frosty*9+carted*9+load*9+1; wears = frosty+carted+new*9+load*9; puckers = frosty+carted+new+load; \
            toll = load+new*9+frosty*9+carted*9;
            send(0) = 1
            weeks(1) = 1
            seam(0, 4) = 1
            toll(0, 5) = 5
            seam(0, 6) = 7
            seam(0, 3) = 81
            toll(1, 5) = 5
            seam(1, 4) = 10
            toll(1, 5) = 5
            seam(1, 4) = 10
            seam(1, 6) = 7
            seam(1, 4) = 10
            seam(1, 5) = 0
            toll(0, 9) = 9
            seam(0, 5) = 0
            toll(0, 9) = 9
            seam(0, 4) = 1
            """);
        SCRIPT.says(13, "(frosty: 1 in a FROST, else 0; carted: the LOADS of CARTS that went along it in this week, together)", """
            text town a; town b; town c; seam a b 7 99; seam b c 7 99; cart x a b 8; cart y b a 9; cart z a c 4; cart w b a 30; \
            wears = frosty*20+carted; frost 100;
            send(0) = 1
            send(1) = 1
            send(2) = 1
            weeks(1) = 1
            seam(0, 3) = 58
            seam(1, 3) = 79
            weeks(1) = 2
            seam(0, 3) = 38
            seam(1, 3) = 55
            text town a; town b; seam a b 7 99; cart x a b 0; wears = frosty*20+carted+1; frost 0;
            send(0) = 1
            weeks(1) = 1
            seam(0, 3) = 98
            """);
    }

    private static void ways() {
        // Its first TOWN is the one that its TELL names first; SEAMS that are not WHOLE count, and itself.
        SCRIPT.says(6, "ways: at how many SEAMS its first TOWN is", """
            text town a; town b; town c; town d; seam a b 7 5; seam c a 7 0; seam a d 7 5; costs = ways; wears = ways; toll = ways;
            seam(0, 4) = 3
            seam(1, 4) = 1
            seam(2, 4) = 3
            seam(0, 5) = 3
            toll(1, 0) = 1
            cut(0) = 5
            seam(2, 4) = 3
            text town a; town b; seam b a 7 5; costs = ways;
            seam(0, 4) = 1
            """);
    }

    private static void newStitch() {
        SCRIPT.says(9, "(new: 1 if it is sewn 0, else 0)", """
            text town a; town b; seam a b 7 0; costs = new*9;
            seam(0, 4) = 9
            takes(0, 2) = 9
            sew(0, 1) = 1
            count(5) = 91
            seam(0, 4) = 0
            sew(0, 1) = 1
            count(5) = 91
            """);
    }

    private static void heldTo() {
        String[][] saidAndHeld = {{"0-9999", "0"}, {"0-1", "0"}, {"0", "0"}, {"1", "1"}, {"98", "98"}, {"99", "99"}, {"100", "99"},
            {"9999", "99"}, {LEAST, "0"}, {LEAST + "-1", "99"}};
        for (String[] pair : saidAndHeld) {
            int held = Integer.parseInt(pair[1]);
            String law = pair[0] + ";\n";
            String text = "text town a; town b; seam a b 99 99; cart c a b 1; ";
            SCRIPT.says(6, "COSTS: how much THREAD one more stitch takes (new: 1 if it is sewn 0, else 0), held to 0 .. 99",
                text + "costs = " + law + "seam(0, 4) = " + held);
            SCRIPT.says(6, "carted: the LOADS of CARTS that went along it in this week, together), held to 0 .. 99",
                text + "wears = " + law + "seam(0, 5) = " + held + "\nweeks(1) = 1\nseam(0, 3) = " + (99 - held));
            SCRIPT.says(6, "PUCKERS, held to 0 .. 99: its WAY is as much shorter than LENGTH (1 at least)",
                text + "puckers = " + law + "seam(0, 6) = " + Math.max(1, 99 - held) + "\nfar(0, 1) = " + Math.max(1, 99 - held));
            SCRIPT.says(8, "TOLL (load: a CART's), held to 0 .. 99",
                text + "toll = " + law + "toll(0, 5) = " + held + "\nsend(0) = 1\nweeks(1) = 1\ncart(0, 5) = " + held);
        }
    }

    private static void wayIsOneAtLeast() {
        SCRIPT.says(6, "its WAY is as much shorter than LENGTH (1 at least)", """
            text town a; town b; seam a b 7 5; puckers = 5;
            seam(0, 6) = 2
            text town a; town b; seam a b 7 5; puckers = 6;
            seam(0, 6) = 1
            text town a; town b; seam a b 7 5; puckers = 7;
            seam(0, 6) = 1
            text town a; town b; seam a b 7 5; puckers = 8;
            seam(0, 6) = 1
            far(0, 1) = 1
            text town a; town b; seam a b 1 5;
            seam(0, 6) = 1
            text town a; town b; seam a b 1 5; puckers = 1;
            seam(0, 6) = 1
            """);
    }

    private static void frost() {
        SCRIPT.quoted("There is a FROST in a week if LOT 100 of the SEED and 4 * the week is less than how many.");
        SCRIPT.quoted("h becomes (h and it, each bit of which is in just one) times 1103515245 and 12345 more, then h and h moved 15 bits "
            + "down (zeros come in), likewise");
        SCRIPT.quoted("the rest of h, moved 1 bit down likewise, by n (32 bits that wrap).");
        // LOT 100 of 45 is 0 in week 0, that of 192 is 99.
        int[] seeds = {0, 1, 2, 7, 45, 107, 192, 4999, 9998, 9999};
        int[] weeks = {0, 1, 2, 3, 26, 59, 60};
        for (int seed : seeds) {
            for (int week : weeks) {
                int lot = TextBoundsTest.lot(seed, 4 * week);
                for (int frost = Math.max(0, lot - 1); frost <= Math.min(100, lot + 2); frost++) {
                    SewnRoads x = Check.roads("town a; town b; seam a b 9 9; wears = frosty; frost " + frost + "; seed " + seed + ";");
                    x.weeks(week);
                    int sewn = x.seam(0, 3);
                    String label = "frost " + frost + " of seed " + seed + " in week " + week + ": ";
                    CHECK.due(label + "count(12)", x.count(12), lot < frost ? 1 : 0);
                    CHECK.due(label + "then(0, 1)", x.then(0, 1), Math.max(0, sewn - (lot < frost ? 1 : 0)));
                }
            }
        }
        SCRIPT.says(36, "FROST: in how many of 100 weeks 0 .. 100 (0)", """
            text frost 0; seed 45;
            count(12) = 0
            weeks(60) = 60
            count(12) = 0
            text frost 100; seed 45;
            count(12) = 1
            weeks(60) = 60
            count(12) = 1
            """);
        everyWeek(100, 60);
        everyWeek(0, 0);
    }

    /** With FROST 100 there is one in each week, with 0 in none. */
    private static void everyWeek(int frost, int want) {
        SewnRoads x = Check.roads("frost " + frost + "; seed 31;");
        int frosts = 0;
        for (int week = 0; week < 60; week++) {
            frosts += x.count(12);
            x.weeks(1);
        }
        CHECK.due("FROSTS in 60 weeks with " + frost, frosts, want);
    }

    private static void wholeSeam() {
        SCRIPT.says(36, "A SEAM is WHOLE if it is sewn 1 or more.", """
            text town a; town b; seam a b 7 1; wears = 0;
            count(6) = 1
            far(0, 1) = 7
            hops(0, 1) = 1
            joined(0) = 3
            hangs() = 1
            rows() = 1
            surest(0, 1) = 1
            soon(0, 1) = 1
            holds(0, 1) = -2
            cuts(0, 1) = 1
            unpick(0, 1) = 101
            count(6) = 0
            far(0, 1) = -2
            hops(0, 1) = -2
            joined(0) = 1
            hangs() = 0
            rows() = 0
            surest(0, 1) = -2
            soon(0, 1) = -2
            holds(0, 1) = 0
            cuts(0, 1) = 0
            """);
    }

    private static void cartsWay() {
        String sentence = "it goes along that WHOLE SEAM from where it is of which WAY and what is FAR from its other end to where the "
            + "CART goes, together, are least (all as it is then; of alike ones the first SEAM); it pays its TOLL";
        // Three ways that are alike, 10 each: by the SEAM told first, though another one is shorter itself.
        SCRIPT.says(13, sentence, """
            text town a; town b; town c; town d; seam a b 5 9; seam a c 1 9; seam a d 10 9; seam b d 5 9; seam c d 9 9; cart x a d 1; wears = 0;
            send(0) = 1
            weeks(1) = 1
            cart(0, 3) = 1
            cart(0, 5) = 5
            text town a; town b; town c; town d; seam c a 1 9; seam a b 5 9; seam a d 10 9; seam b d 5 9; seam c d 9 9; cart x a d 1; wears = 0;
            send(0) = 1
            weeks(1) = 1
            cart(0, 3) = 2
            cart(0, 5) = 1
            text town a; town b; town c; town d; seam d c 9 9; seam d b 5 9; seam a d 10 9; seam a b 5 9; seam c a 1 9; cart x a d 1; wears = 0;
            send(0) = 1
            weeks(1) = 1
            cart(0, 3) = 3
            cart(0, 5) = 10
            """);
        // One less on the last one's way: it is taken; one less by pucker, too, as it is in that week.
        SCRIPT.says(13, sentence, """
            text town a; town b; town c; seam a b 5 9; seam b c 5 9; seam a c 9 9; cart x a c 1; wears = 0;
            send(0) = 1
            weeks(1) = 1
            cart(0, 3) = 2
            text town a; town b; town c; seam a b 5 9; seam b c 5 9; seam a c 11 9; cart x a c 1; wears = 0;
            send(0) = 1
            weeks(1) = 1
            cart(0, 3) = 1
            text town a; town b; town c; seam a b 5 9; seam b c 5 9; seam a c 10 9; cart x a c 1; wears = 0; puckers = week*(which/2);
            send(0) = 1
            weeks(1) = 1
            cart(0, 3) = 1
            cart(0, 4) = 1
            weeks(1) = 2
            cart(0, 3) = 2
            send(0) = 1
            weeks(1) = 3
            cart(0, 3) = 2
            cart(0, 7) = 2
            """);
        // A SEAM that leads away, and one that is not WHOLE, are not gone along.
        SCRIPT.says(13, sentence, """
            text town a; town b; town c; town d; seam a d 1 9; seam a b 50 9; seam b c 1 9; seam a c 1 0; cart x a c 1; wears = 0;
            send(0) = 1
            weeks(1) = 1
            cart(0, 3) = 1
            cart(0, 5) = 50
            """);
        SCRIPT.says(13, "CART by CART, that is SENT and on its road", """
            text town a; town b; town c; seam a b 5 9; seam b c 5 9; cart x a c 1; cart y a b 1; cart z c a 1; wears = 0;
            send(0) = 1
            send(1) = 1
            weeks(2) = 2
            cart(0, 3) = 2
            cart(1, 3) = 1
            cart(1, 5) = 5
            cart(2, 3) = 2
            cart(2, 5) = 0
            cart(2, 6) = 0
            """);
    }

    private static void cartsStranded() {
        SCRIPT.says(13, "if none leads there, it is STRANDED for this week.", """
            text town a; town b; town c; seam a b 5 9; seam b c 5 0; cart x a c 7; cart y b a 1; wears = carted; toll = 3;
            send(0) = 1
            weeks(1) = 1
            cart(0, 3) = 0
            cart(0, 4) = 1
            cart(0, 5) = 0
            cart(0, 6) = 1
            seam(0, 3) = 9
            weeks(2) = 3
            cart(0, 6) = 3
            cart(1, 6) = 0
            sew(1, 9) = 9
            weeks(1) = 4
            cart(0, 3) = 1
            cart(0, 5) = 3
            cart(0, 6) = 3
            cut(1) = 9
            weeks(60) = 64
            cart(0, 3) = 1
            cart(0, 6) = 63
            cart(0, 7) = 0
            """);
    }

    private static void cartIsThere() {
        SCRIPT.says(13, "Which is there is no more on the road.", """
            text town a; town b; seam a b 5 99; cart x a b 7;
            cart(0, 4) = 0
            send(0) = 1
            cart(0, 4) = 1
            count(7) = 1
            weeks(1) = 1
            cart(0, 3) = 1
            cart(0, 4) = 0
            cart(0, 7) = 1
            count(7) = 0
            weeks(60) = 61
            cart(0, 3) = 1
            cart(0, 5) = 5
            cart(0, 6) = 0
            cart(0, 7) = 1
            """);
    }

    private static void wearsZeroAtLeast() {
        SCRIPT.says(13, "Then each SEAM is as much less sewn as it WEARS (0 at least), by how all was then.", """
            text town a; town b; seam a b 5 3; wears = 2;
            weeks(1) = 1
            seam(0, 3) = 1
            weeks(1) = 2
            seam(0, 3) = 0
            weeks(1) = 3
            seam(0, 3) = 0
            count(14) = 0
            text town a; town b; seam a b 5 3; wears = 3;
            weeks(1) = 1
            seam(0, 3) = 0
            text town a; town b; seam a b 5 3; wears = 4;
            weeks(1) = 1
            seam(0, 3) = 0
            text town a; town b; seam a b 5 90; wears = sewn/10;
            weeks(1) = 1
            seam(0, 3) = 81
            weeks(1) = 2
            seam(0, 3) = 73
            text town a; town b; seam a b 5 90; wears = week;
            weeks(1) = 1
            seam(0, 3) = 90
            weeks(3) = 4
            seam(0, 3) = 84
            """);
        // The TOLL and the way are by how well it is sewn ahead of the wear.
        SCRIPT.says(13, "Then each SEAM is as much less sewn as it WEARS (0 at least), by how all was then.", """
            text town a; town b; seam a b 5 1; cart x a b 1; wears = 99; toll = sewn*7+week;
            send(0) = 1
            weeks(1) = 1
            cart(0, 3) = 1
            cart(0, 5) = 7
            seam(0, 3) = 0
            """);
    }

    private static void nothingCartedYet() {
        SCRIPT.says(13, "It is the next week; nothing is carted yet.", """
            text town a; town b; seam a b 5 99; cart x a b 7; wears = carted;
            send(0) = 1
            weeks(1) = 1
            seam(0, 3) = 92
            seam(0, 5) = 0
            weeks(1) = 2
            seam(0, 3) = 92
            send(0) = 1
            seam(0, 5) = 0
            weeks(2) = 4
            seam(0, 3) = 85
            """);
    }
}
