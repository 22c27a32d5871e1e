/** The document once more, from II up to the promises: laws, weeks, what is done by hand, what would be, and what is told. */
public final class DocumentRulesTest {
    private static final Check CHECK = new Check("DocumentRulesTest");
    private static final Document DOC = new Document(CHECK, "==== II.", "## Promise 1:");
    private static final String ONE = "text town a; town b; seam a b 9 4; ";
    // A ring of four, a to d, and a tail to e.
    private static final String RING = "text town a; town b; town c; town d; town e; seam a b 5 9; seam b c 6 8; seam c d 7 7; "
        + "seam d a 8 6; seam d e 9 5; ";

    public static void main(String[] args) {
        laws();
        lawsOfSeams();
        frosts();
        week();
        byHand();
        wouldBe();
        sewing();
        whileAllWears();
        atOnce();
        ahead();
        told();
        DOC.end();
        CHECK.end();
    }

    private static void laws() {
        DOC.says(6, "LAWS: the E of the first if that holds (one less than the other), else the last one;", ONE + """
            costs = if sewn < 4 then 11 else if sewn < 6 then 22 else if sewn < 8 then 33 else 44; thread 9999;
            seam(0, 4) = 22
            sew(0, 1) = 1
            seam(0, 4) = 22
            sew(0, 1) = 1
            seam(0, 4) = 33
            sew(0, 2) = 2
            seam(0, 4) = 44
            unpick(0, 5) = 9894
            seam(0, 4) = 11
            """);
        DOC.says(6, "ints of 32 bits that wrap,", ONE + """
            costs = 8192 * 8192 * 64 + 7; wears = 8192 * 8192 * 32; toll = 8192 * 8192 * 32 - 1; puckers = if 8192 * 8192 * 32 < 0 then 3 else 4;
            seam(0, 4) = 7
            seam(0, 5) = 0
            toll(0, 0) = 99
            seam(0, 6) = 6
            """);
        DOC.says(6, "/ rounded towards 0;", ONE + """
            costs = (0 - 7) / 2 + 10; wears = 7 / (0 - 2) + 10; toll = (0 - 7) / (0 - 2); puckers = 7 / 2;
            seam(0, 4) = 7
            seam(0, 5) = 7
            toll(0, 0) = 3
            seam(0, 6) = 6
            """);
        DOC.says(6, "a LAW in which something that is looked at is divided by 0 is 0;", ONE + """
            costs = 5 + 1 / 0; wears = if 1 / (sewn - 4) < 5 then 6 else 7; toll = if 2 < 1 then 1 / 0 else 8;
            seam(0, 4) = 0
            seam(0, 5) = 0
            toll(0, 0) = 8
            text town a; town b; seam a b 9 4; costs = if 1 < 2 then 5 else 1 / 0; wears = if 1 < 2 then 6 else if 1 / 0 < 1 then 7 else 8;
            seam(0, 4) = 5
            seam(0, 5) = 6
            text town a; town b; seam a b 9 4; costs = if 2 < 1 then 5 else 9 + 1 / 0; puckers = 5 + 0 / 0;
            seam(0, 4) = 0
            seam(0, 6) = 9
            """);
        DOC.says(6, "a VAR not told for a LAW is 0 in it; week for all.", ONE + """
            frost 100; costs = frosty + carted + load + 3; wears = new + load + 5; puckers = frosty + carted + new + load + 2; toll = frosty + carted + new + 1;
            cut(0) = 4
            seam(0, 4) = 3
            seam(0, 5) = 5
            seam(0, 6) = 7
            toll(0, 99) = 1
            text town a; town b; seam a b 9 99; cart c a b 5; frost 100; costs = frosty + carted + load + 3; wears = new + load + frosty + carted; puckers = frosty + carted + new + load + 2; toll = frosty + carted + new + 1;
            send(0) = 1
            weeks(1) = 1
            seam(0, 3) = 93
            seam(0, 4) = 3
            seam(0, 5) = 0
            seam(0, 6) = 7
            toll(0, 99) = 1
            seam(0, 4) = 3
            seam(0, 6) = 7
            text town a; town b; seam a b 99 99; costs = week; wears = week; puckers = week; toll = week;
            weeks(3) = 3
            seam(0, 3) = 96
            seam(0, 4) = 3
            seam(0, 5) = 3
            seam(0, 6) = 96
            toll(0, 0) = 3
            """);
    }

    private static void lawsOfSeams() {
        DOC.says(6, "Of a SEAM (length, sewn: its own; which: its number; ways: at how many SEAMS its first TOWN is):", """
            text town a; town b; town c; seam a b 9 4; seam b c 8 0; seam c a 7 2; costs = length; wears = sewn; puckers = which; toll = ways;
            seam(0, 4) = 9
            seam(1, 4) = 8
            seam(2, 4) = 7
            seam(0, 5) = 4
            seam(1, 5) = 0
            seam(2, 5) = 2
            seam(0, 6) = 9
            seam(1, 6) = 7
            seam(2, 6) = 5
            toll(0, 0) = 2
            toll(1, 0) = 2
            toll(2, 0) = 2
            text town a; town b; town c; town d; seam a b 9 4; seam a c 8 0; seam d a 7 2; toll = ways;
            toll(0, 0) = 3
            toll(1, 0) = 3
            toll(2, 0) = 1
            """);
        DOC.says(6, "COSTS: how much THREAD one more stitch takes (new: 1 if it is sewn 0, else 0), held to 0 .. 99;", """
            text town a; town b; town c; seam a b 9 1; seam b c 8 0; costs = 2 + new * 5; thread 20;
            seam(0, 4) = 2
            seam(1, 4) = 7
            sew(1, 1) = 1
            count(5) = 13
            seam(1, 4) = 2
            sew(0, 1) = 1
            count(5) = 11
            text town a; town b; seam a b 9 4; costs = 100; thread 99;
            seam(0, 4) = 99
            sew(0, 2) = 1
            count(5) = 0
            text town a; town b; seam a b 9 4; costs = 3 - 4; thread 0;
            seam(0, 4) = 0
            sew(0, 2) = 2
            """);
        DOC.says(13, "WEARS (frosty: 1 in a FROST, else 0; carted: the LOADS of CARTS that went along it in this week, together), held to 0 .. 99;", """
            text town a; town b; town c; seam a b 9 99; seam b c 9 99; cart p a b 5; cart q b a 7; cart r b c 20; frost 100; wears = frosty + carted * 2;
            seam(0, 5) = 0
            send(0) = 1
            send(1) = 1
            send(2) = 1
            weeks(1) = 1
            seam(0, 3) = 74
            seam(1, 3) = 58
            weeks(1) = 2
            seam(0, 3) = 73
            seam(1, 3) = 57
            text town a; town b; seam a b 9 99; wears = 100;
            seam(0, 5) = 99
            text town a; town b; seam a b 9 50; wears = 0 - 10;
            seam(0, 5) = 0
            weeks(1) = 1
            seam(0, 3) = 50
            """);
        DOC.says(6, "PUCKERS, held to 0 .. 99: its WAY is as much shorter than LENGTH (1 at least);", ONE + """
            puckers = 8;
            seam(0, 6) = 1
            text town a; town b; seam a b 9 4; puckers = 9;
            seam(0, 6) = 1
            far(0, 1) = 1
            text town a; town b; seam a b 99 4; puckers = 9999;
            seam(0, 6) = 1
            text town a; town b; seam a b 99 4; puckers = 0 - 5;
            seam(0, 6) = 99
            far(0, 1) = 99
            seam(0, 2) = 99
            """);
        DOC.says(8, "TOLL (load: a CART's), held to 0 .. 99.", ONE + """
            cart c a b 6; toll = load * 7;
            toll(0, 0) = 0
            toll(0, 6) = 42
            toll(0, 14) = 98
            toll(0, 15) = 99
            send(0) = 1
            weeks(1) = 1
            cart(0, 5) = 42
            text town a; town b; seam a b 9 4; toll = load - 5;
            toll(0, 4) = 0
            toll(0, 7) = 2
            """);
    }

    private static void frosts() {
        // By the seed 0 the weeks' lots are 52, 79, 15, 58, 91, 99, 6.
        DOC.says(36, "There is a FROST in a week if LOT 100 of the SEED and 4 * the week is less than how many.", """
            text frost 58; seed 0; town a; town b; seam a b 1 99; wears = 1 + frosty * 9;
            count(12) = 1
            weeks(1) = 1
            seam(0, 3) = 89
            count(12) = 0
            weeks(1) = 2
            seam(0, 3) = 88
            count(12) = 1
            weeks(1) = 3
            seam(0, 3) = 78
            count(12) = 0
            weeks(1) = 4
            count(12) = 0
            weeks(2) = 6
            count(12) = 1
            seam(0, 3) = 75
            """);
        DOC.says(36, "A SEAM is WHOLE if it is sewn 1 or more.", """
            text town a; town b; town c; town d; seam a b 9 0; seam b c 9 1; seam c d 9 99;
            count(6) = 6
            joined(0) = 1
            joined(1) = 14
            weeks(1) = 1
            count(6) = 4
            joined(1) = 2
            """);
        // The lot of the seed 7 and week 7 is 10, that of the seed 9999 and week 1 is 5.
        DOC.says(36, "LOT n of a SEED and a which: h is the SEED; for each of 107, which: h becomes (h and it, each bit of which is in just one) times 1103515245 "
            + "and 12345 more, then h and h moved 15 bits down (zeros come in), likewise; the rest of h, moved 1 bit down likewise, by n (32 bits that wrap).", """
            text frost 10; seed 7;
            weeks(7) = 7
            count(12) = 0
            text frost 11; seed 7;
            weeks(7) = 7
            count(12) = 1
            text frost 5; seed 9999;
            weeks(1) = 1
            count(12) = 0
            text frost 6; seed 9999;
            weeks(1) = 1
            count(12) = 1
            """);
    }

    private static void week() {
        DOC.says(13, "A WEEK: CART by CART, that is SENT and on its road: it goes along that WHOLE SEAM from where it is of which WAY and what is FAR from "
            + "its other end to where the CART goes, together, are least (all as it is then;", RING + """
            cart p a c 1; cart q a c 2; cart r e b 3; wears = 1; puckers = if which < 1 then 0 else if week < 1 then 0 else 5;
            send(0) = 1
            send(2) = 1
            weeks(1) = 1
            cart(0, 3) = 1
            cart(1, 3) = 0
            cart(2, 3) = 3
            send(1) = 1
            weeks(1) = 2
            cart(0, 3) = 2
            cart(1, 3) = 3
            cart(2, 3) = 2
            weeks(1) = 3
            cart(1, 3) = 2
            cart(2, 3) = 1
            """);
        DOC.says(13, "of alike ones the first SEAM);", """
            text town a; town b; town c; town d; seam d c 5 9; seam a c 5 9; seam a b 5 9; seam b d 5 9; cart p a d 1; cart q d a 1;
            send(0) = 1
            send(1) = 1
            weeks(1) = 1
            cart(0, 3) = 2
            cart(1, 3) = 2
            """);
        DOC.says(7, "it pays its TOLL;", """
            text town a; town b; town c; seam a b 5 9; seam b c 6 9; cart p a c 3; toll = length * load + sewn;
            send(0) = 1
            weeks(1) = 1
            cart(0, 5) = 24
            weeks(1) = 2
            cart(0, 5) = 50
            weeks(1) = 3
            cart(0, 5) = 50
            """);
        DOC.says(7, "if none leads there, it is STRANDED for this week.", """
            text town a; town b; town c; seam a b 5 9; seam b c 6 0; cart p a c 3;
            send(0) = 1
            weeks(1) = 1
            cart(0, 3) = 0
            cart(0, 4) = 1
            cart(0, 5) = 0
            cart(0, 6) = 1
            sew(1, 1) = 1
            weeks(1) = 2
            cart(0, 3) = 1
            cart(0, 6) = 1
            weeks(2) = 4
            cart(0, 3) = 1
            cart(0, 6) = 3
            """);
        DOC.says(7, "Which is there is no more on the road.", """
            text town a; town b; seam a b 5 9; cart p a b 3;
            count(7) = 0
            send(0) = 1
            count(7) = 1
            cart(0, 4) = 1
            weeks(1) = 1
            count(7) = 0
            cart(0, 4) = 0
            cart(0, 7) = 1
            """);
        DOC.says(13, "Then each SEAM is as much less sewn as it WEARS (0 at least), by how all was then.", """
            text town a; town b; town c; seam a b 5 9; seam b c 5 3; wears = sewn / 2 + 1 + carted + week; cart p a b 2;
            send(0) = 1
            weeks(1) = 1
            seam(0, 3) = 2
            seam(1, 3) = 1
            weeks(1) = 2
            seam(0, 3) = 0
            seam(1, 3) = 0
            """);
        DOC.says(13, "It is the next week; nothing is carted yet.", """
            text town a; town b; seam a b 5 50; wears = carted; cart p a b 2;
            send(0) = 1
            count(4) = 0
            weeks(1) = 1
            count(4) = 1
            seam(0, 3) = 48
            seam(0, 5) = 0
            then(0, 1) = 48
            weeks(1) = 2
            seam(0, 3) = 48
            """);
    }

    private static void byHand() {
        DOC.says(9, "By hand: a SEAM is SEWN by n stitches (each at its COSTS, one after the other; as far as THREAD goes and 99 at most);", ONE + """
            costs = sewn; thread 20;
            sew(0, 9) = 3
            seam(0, 3) = 7
            count(5) = 5
            text town a; town b; seam a b 9 97; thread 20;
            sew(0, 9) = 2
            seam(0, 3) = 99
            count(5) = 18
            """);
        DOC.says(10, "it is CUT (sewn 0),", ONE + """

            cut(0) = 4
            seam(0, 3) = 0
            count(5) = 100
            """);
        DOC.says(11, "or UNPICKED by n (as many less, 0 at least; each gives 1 THREAD back, 9999 at most);", ONE + """
            costs = 7; thread 9990;
            unpick(0, 3) = 9993
            seam(0, 3) = 1
            unpick(0, 3) = 9994
            seam(0, 3) = 0
            text town a; town b; seam a b 9 9; thread 9995;
            unpick(0, 9) = 9999
            seam(0, 3) = 0
            """);
        DOC.says(12, "a CART at home, or there, is SENT from where it began;", ONE + """
            cart c a b 5;
            send(0) = 1
            weeks(1) = 1
            cart(0, 3) = 1
            send(0) = 1
            cart(0, 3) = 0
            weeks(1) = 2
            cart(0, 3) = 1
            cart(0, 7) = 2
            """);
        DOC.says(13, "WEEKS go by.", ONE + """

            weeks(2) = 2
            seam(0, 3) = 2
            weeks(1) = 3
            seam(0, 3) = 1
            """);
    }

    private static void wouldBe() {
        DOC.says(27, "What would be (nothing happens).", RING + """
            cart p a c 5; frost 50;
            send(0) = 1
            then(0, 60) = 0
            cartIn(0, 60, 0) = 2
            year(0, 1, 60, 20) = 0
            soon(0, 4) = 2
            holds(0, 4) = 5
            doubles(0, 4, 9) = 4
            march(60) = 5
            sewing(31, 99, 1) = 23
            count(4) = 0
            count(5) = 100
            count(9) = 1
            count(14) = 35
            cart(0, 3) = 0
            """);
        DOC.says(15, "FAR: the least sum of WAYS of WHOLE SEAMS between two TOWNS.", RING + """
            puckers = if which < 2 then 0 else 3;
            far(0, 4) = 11
            far(0, 2) = 9
            far(1, 4) = 16
            cut(3) = 6
            far(0, 4) = 21
            far(0, 2) = 11
            """);
        DOC.says(18, "HANGS: WHOLE SEAMS of which, were one CUT, the TOWNS at its ends were not joined.", RING + """

            hangs() = 16
            cut(1) = 8
            hangs() = 29
            cut(4) = 5
            hangs() = 13
            """);
    }

    private static void sewing() {
        // From a to e by d alone, or round by b and c; the last seam must be sewn either way.
        DOC.says(20, "SEWING for a set of TOWNS, s (1 .. 99): the set of SEAMS, each sewn s or more then, that joins all TOWNS of the set (through others, too), "
            + "so that all stitches that must be made COST least;", RING + """
            costs = 1 + new * 2 + which;
            sewing(17, 5, 0) = 0
            sewing(17, 6, 0) = 5
            sewing(17, 6, 1) = 23
            sewing(17, 8, 0) = 18
            sewing(17, 8, 1) = 23
            cut(0) = 9
            sewing(17, 6, 0) = 5
            sewing(17, 6, 1) = 24
            sewing(17, 8, 0) = 23
            sewing(17, 8, 1) = 24
            sewing(3, 2, 0) = 0
            sewing(2, 99, 0) = 0
            sewing(0, 99, 0) = 0
            """);
        DOC.says(20, "of alike ones the least bits.", RING + """

            sewing(5, 6, 0) = 0
            sewing(5, 6, 1) = 3
            sewing(3, 1, 1) = 1
            sewing(12, 1, 1) = 4
            sewing(9, 1, 1) = 7
            sewing(31, 1, 1) = 23
            """);
        DOC.says(21, "SUREST between two TOWNS: of all ways that one by which the SEAM sewn least is sewn most: how well that is.", RING + """

            surest(0, 1) = 9
            surest(0, 2) = 8
            surest(0, 3) = 7
            surest(0, 4) = 5
            cut(1) = 8
            surest(0, 2) = 6
            surest(1, 2) = 6
            """);
    }

    private static void whileAllWears() {
        DOC.says(22, "SOON from a TOWN to a TOWN, one SEAM a week, or staying, while all wears, without FROSTS, nothing carted: the fewest WEEKS (0 .. 40).", """
            text town a; town b; town c; town d; seam a b 9 1; seam b c 9 2; seam c d 9 2; seam a d 9 0; frost 100; wears = 1 + (frosty + carted) * 50;
            soon(0, 0) = 0
            soon(0, 1) = 1
            soon(0, 2) = 2
            soon(0, 3) = -2
            soon(1, 3) = 2
            soon(3, 1) = 2
            soon(2, 0) = -2
            soon(1, 0) = 1
            sew(2, 1) = 1
            soon(0, 3) = 3
            sew(3, 1) = 1
            soon(0, 3) = 1
            """);
        DOC.says(23, "HOLDS between two TOWNS: behind how many WEEKS (0 .. 200), likewise, they are joined no more.", RING + """
            frost 100; wears = 1 + (frosty + carted) * 50;
            holds(0, 1) = 9
            holds(0, 2) = 8
            holds(0, 3) = 7
            holds(0, 4) = 5
            text town a; town b; seam a b 9 99; wears = (week + 1) / 2 * 2 - week;
            holds(0, 1) = 198
            text town a; town b; seam a b 9 1; wears = week / 199;
            holds(0, 1) = 200
            text town a; town b; seam a b 9 1; wears = week / 200;
            holds(0, 1) = -2
            text town a; town b; seam a b 9 0;
            holds(0, 1) = 0
            """);
    }

    private static void atOnce() {
        DOC.says(24, "ROWS: in how few walks, without lifting the thread, along each WHOLE SEAM once, all can be gone along.", RING + """

            rows() = 1
            cut(4) = 5
            rows() = 1
            cut(1) = 8
            rows() = 1
            cut(3) = 6
            rows() = 2
            text town a; town b; town c; town d; town e; seam a b 1 1; seam a c 1 1; seam a d 1 1; seam a e 1 1;
            rows() = 2
            text town a; town b; town c; town d; seam a b 1 1; seam a c 1 1; seam a d 1 1; seam b c 1 1; seam b d 1 1; seam c d 1 1;
            rows() = 2
            text town a; town b; town c; town d; town e; town f; seam a b 1 1; seam a c 1 1; seam a d 1 1; seam a e 1 1; seam a f 1 1;
            rows() = 3
            text town a; town b; seam a b 1 0;
            rows() = 0
            """);
        DOC.says(25, "MARCH for n WEEKS (0 .. 60): all stitches that all WOMEN make in them, laid on SEAMS so that the one sewn least is sewn most (99 at most; THREAD, "
            + "wear not looked at): how well that is then.", RING + """
            woman u 3; woman v 2; thread 0; wears = 99;
            march(0) = 5
            march(1) = 7
            march(2) = 9
            march(3) = 10
            march(4) = 11
            march(60) = 67
            text town a; town b; seam a b 1 39; woman u 1;
            march(59) = 98
            march(60) = 99
            text town a; town b; seam a b 1 40; woman u 1;
            march(60) = 99
            """);
        DOC.says(26, "DOUBLE: the SEAM that, sewn s more now (99 at most), lets two TOWNS HOLD longest, longer than now; of alike ones the first.", RING + """

            doubles(0, 4, 1) = 4
            doubles(0, 4, 90) = 4
            doubles(0, 1, 1) = 0
            doubles(0, 2, 1) = 1
            doubles(0, 3, 1) = 2
            doubles(0, 3, 2) = 2
            doubles(0, 3, 3) = 3
            doubles(0, 2, 90) = 1
            text town a; town b; town c; seam a b 1 99; seam b c 1 99;
            doubles(0, 1, 5) = -2
            doubles(0, 2, 5) = -2
            text town a; town b; town c; seam a b 1 5; seam b c 1 5;
            doubles(0, 2, 5) = -2
            doubles(1, 2, 5) = 1
            """);
    }

    private static void ahead() {
        DOC.says(27, "IN n WEEKS (0 .. 60): how well a SEAM is sewn; where a CART is; what it has paid more.", RING + """
            cart p a c 5; wears = 1 + carted / 5;
            send(0) = 1
            then(0, 0) = 9
            then(0, 1) = 7
            then(0, 2) = 6
            then(1, 2) = 5
            cartIn(0, 0, 0) = 0
            cartIn(0, 1, 0) = 1
            cartIn(0, 2, 0) = 2
            cartIn(0, 60, 0) = 2
            cartIn(0, 1, 1) = 5
            cartIn(0, 2, 1) = 11
            weeks(1) = 1
            cartIn(0, 1, 1) = 6
            cartIn(0, 0, 1) = 0
            then(0, 1) = 6
            """);
        // The lots of weeks 0 to 5: by the seed 0 they are 52, 79, 15, 58, 91, 99, by 1 52, 29, 34, 43, 43, 64; of week 0: by 9999 13, by 10000 47.
        DOC.says(29, "YEAR by s SEEDS (1 .. 20) from the text's SEED on: in how many of them two TOWNS are joined behind n WEEKS (0 .. 60).", """
            text town a; town b; seam a b 1 3; frost 30; wears = 1 + frosty * 2; seed 0;
            year(0, 1, 0, 20) = 20
            year(0, 1, 1, 2) = 2
            year(0, 1, 2, 1) = 1
            year(0, 1, 2, 2) = 1
            year(0, 1, 3, 20) = 0
            text town a; town b; seam a b 1 6; frost 99; wears = frosty; seed 0;
            year(0, 1, 6, 1) = 1
            year(0, 1, 6, 2) = 1
            text town a; town b; seam a b 1 3; frost 48; wears = frosty * 9; seed 9999;
            year(0, 1, 1, 1) = 0
            year(0, 1, 1, 2) = 0
            text town a; town b; seam a b 1 3; frost 47; wears = frosty * 9; seed 9999;
            year(0, 1, 1, 1) = 0
            year(0, 1, 1, 2) = 1
            """);
    }

    private static void told() {
        DOC.says(30, "TOLD: that the way between two TOWNS was measured to be so long (1 .. 999; 0: not joined), behind a cut; 20 at most, numbered from 0 on;", RING + """

            tell(0, 1, 1) = 0
            tell(0, 1, 999) = 1
            tell(0, 1, 0) = 2
            tell(0, 1, 1000) = -1
            tell(0, 1, -1) = -1
            times 17 tell(4, 3, 0)
            count(10) = 20
            tell(0, 1, 1) = -1
            forget() = 20
            tell(0, 4, 0) = 0
            cuts(1, 1) = 16
            """);
        DOC.says(32, "KNOWN by k: the first k.", RING + """

            tell(0, 2, 15) = 0
            tell(0, 1, 21) = 1
            tell(0, 1, 5) = 2
            cuts(0, 1) = 31
            cuts(1, 1) = 3
            cuts(2, 1) = 1
            cuts(3, 1) = 0
            cuts(4, 1) = -1
            """);
        DOC.says(32, "CUTS: WHOLE SEAMS, as all is now, of which one was CUT, so that all that is KNOWN is so: how many; which (bits).", RING + """

            cuts(0, 0) = 5
            cuts(0, 1) = 31
            tell(0, 3, 8) = 0
            cuts(1, 0) = 4
            cuts(1, 1) = 23
            cut(2) = 7
            cuts(1, 0) = 3
            cuts(1, 1) = 19
            cut(3) = 6
            cuts(1, 1) = 0
            """);
        // Behind the five cuts a - b is 21, 5, 5, 5, 5 long, a - c 15, 15, 11, 11, 11, a - e 17, 17, 17, 27, not joined.
        DOC.says(33, "ASK: the two TOWNS whose way, once it is measured, leaves fewest, at worst; of alike ones the first by the lesser TOWN, then by the other one.", RING + """

            ask(0) = 2
            tell(0, 2, 15) = 0
            ask(1) = 1
            """);
    }
}
