/** The sentences under III and IV that name a bound: promises 15 to 33. */
public final class WouldBeBoundsTest {
    private static final Check CHECK = new Check("WouldBeBoundsTest");
    private static final Script SCRIPT = new Script(CHECK);
    private static final String SEVEN = "text town a; town b; town c; town d; town e; town f; town g; ";
    // From a to g one by one, the least sewn first.
    private static final String LINE = SEVEN + "seam a b 99 1; seam b c 99 2; seam c d 99 3; seam d e 99 4; seam e f 99 5; seam f g 99 6; ";

    public static void main(String[] args) {
        far();
        hops();
        joined();
        hangs();
        takes();
        sewing();
        surest();
        soon();
        holds();
        rows();
        march();
        doubles();
        doublesForGood();
        then();
        cartIn();
        year();
        yearBySeeds();
        tell();
        knownBy();
        forget();
        cuts();
        ask();
        CHECK.end();
    }

    private static void far() {
        SCRIPT.says(15, "FAR (0 to itself); -2: not joined; NONE: no such ones.", LINE + """

            far(0, 0) = 0
            far(6, 6) = 0
            far(0, 6) = 594
            far(6, 0) = 594
            far(7, 0) = -1
            far(0, 7) = -1
            far(7, 7) = -1
            far(-1, -1) = -1
            cut(3) = 4
            far(0, 6) = -2
            far(3, 4) = -2
            far(4, 3) = -2
            far(0, 3) = 297
            far(3, 3) = 0
            """);
        SCRIPT.says(15, "FAR (0 to itself)", "text town a; town b;\nfar(1, 1) = 0\nfar(0, 1) = -2");
        SCRIPT.says(15, "FAR: the least sum of WAYS of WHOLE SEAMS between two TOWNS.", LINE + """
            puckers = 99;
            far(0, 6) = 6
            weeks(1) = 1
            far(0, 6) = -2
            far(1, 6) = 5
            text town a; town b; town c; seam a b 5 1; seam b c 5 1; seam a c 10 1;
            far(0, 2) = 10
            text town a; town b; town c; seam a b 5 1; seam b c 5 1; seam a c 9 1;
            far(0, 2) = 9
            text town a; town b; town c; seam a b 5 1; seam b c 5 1; seam a c 11 1;
            far(0, 2) = 10
            text town a; town b; town c; seam a b 5 1; seam b c 5 1; seam a c 1 0;
            far(0, 2) = 10
            """);
    }

    private static void hops() {
        SCRIPT.says(16, "The fewest WHOLE SEAMS from a TOWN to a TOWN; -2: not joined; NONE: no such ones.", LINE + """

            hops(0, 0) = 0
            hops(0, 1) = 1
            hops(0, 6) = 6
            hops(6, 0) = 6
            hops(0, 7) = -1
            hops(7, 0) = -1
            hops(-1, 0) = -1
            cut(0) = 1
            hops(0, 6) = -2
            hops(0, 0) = 0
            hops(1, 6) = 5
            text town a; town b; town c; seam a b 1 1; seam b c 1 1; seam a c 99 1;
            hops(0, 2) = 1
            cut(2) = 1
            hops(0, 2) = 2
            """);
    }

    private static void joined() {
        SCRIPT.says(17, "TOWNS joined to a TOWN by WHOLE SEAMS, itself too (bits); NONE: no such one.", LINE + """

            joined(0) = 127
            joined(6) = 127
            joined(7) = -1
            joined(-1) = -1
            cut(2) = 3
            joined(0) = 7
            joined(6) = 120
            cut(5) = 6
            joined(6) = 64
            joined(5) = 56
            """);
    }

    private static void hangs() {
        SCRIPT.says(18, "HANGS: WHOLE SEAMS of which, were one CUT, the TOWNS at its ends were not joined.", LINE + """
            seam g a 1 1; wears = 0;
            hangs() = 0
            cut(6) = 1
            hangs() = 63
            cut(0) = 1
            hangs() = 62
            text town a; town b; town c; town d; seam a b 1 1; seam b c 1 1; seam a c 1 1; seam c d 1 1;
            hangs() = 8
            text town a;
            hangs() = 0
            """);
    }

    private static void takes() {
        SCRIPT.says(19, "How much THREAD it takes to have a SEAM sewn s (1 .. 99); NONE: no such ones.", """
            text town a; town b; town c; seam a b 7 5; seam b c 7 0; seam a c 7 99; costs = 1+new*20; thread 0;
            takes(0, 1) = 0
            takes(0, 4) = 0
            takes(0, 5) = 0
            takes(0, 6) = 1
            takes(0, 99) = 94
            takes(1, 1) = 21
            takes(1, 2) = 22
            takes(1, 99) = 119
            takes(2, 99) = 0
            takes(2, 1) = 0
            takes(0, 0) = -1
            takes(0, 100) = -1
            takes(3, 1) = -1
            takes(-1, 1) = -1
            text town a; town b; seam a b 7 0; costs = 99;
            takes(0, 99) = 9801
            text town a; town b; seam a b 7 0; costs = 0;
            takes(0, 99) = 0
            """);
    }

    private static void sewing() {
        SCRIPT.says(20, "SEWING (bits of TOWNS): what 0 THREAD, 1 which SEAMS (bits); -2: by none; NONE: no such ones.", """
            text town a; town b; town c; seam a b 7 5; costs = 2;
            sewing(0, 1, 0) = 0
            sewing(0, 99, 1) = 0
            sewing(1, 99, 0) = 0
            sewing(4, 99, 1) = 0
            sewing(3, 5, 0) = 0
            sewing(3, 5, 1) = 1
            sewing(3, 6, 0) = 2
            sewing(3, 99, 0) = 188
            sewing(3, 1, 1) = 1
            sewing(4, 1, 0) = 0
            sewing(5, 1, 0) = -2
            sewing(5, 1, 1) = -2
            sewing(7, 99, 1) = -2
            sewing(8, 1, 0) = -1
            sewing(-1, 1, 0) = -1
            sewing(3, 0, 0) = -1
            sewing(3, 100, 0) = -1
            sewing(3, 1, -1) = -1
            sewing(3, 1, 2) = -1
            sewing(5, 0, 0) = -1
            cut(0) = 5
            sewing(3, 1, 0) = 2
            sewing(3, 1, 1) = 1
            """);
        SCRIPT.says(20, "SEWING for a set of TOWNS, s (1 .. 99): the set of SEAMS, each sewn s or more then", """
            text town a; town b; seam a b 7 50; costs = 2;
            sewing(3, 49, 0) = 0
            sewing(3, 50, 0) = 0
            sewing(3, 51, 0) = 2
            sewing(3, 99, 0) = 98
            """);
        // Of alike ones the least bits, not the fewest SEAMS; none that is not needed.
        SCRIPT.says(20, "so that all stitches that must be made COST least; of alike ones the least bits", """
            text town a; town b; town c; town d; seam a b 1 5; seam b c 1 5; seam a c 1 5; seam c d 1 5; costs = 0;
            sewing(15, 9, 1) = 11
            sewing(5, 9, 1) = 3
            sewing(6, 9, 1) = 2
            sewing(7, 9, 1) = 3
            sewing(9, 9, 1) = 11
            text town a; town b; town c; town d; seam a b 1 5; seam b c 1 5; seam a c 1 5; seam c d 1 5; costs = 1;
            sewing(5, 5, 1) = 3
            sewing(5, 6, 1) = 4
            sewing(5, 6, 0) = 1
            sewing(7, 6, 0) = 2
            sewing(7, 6, 1) = 3
            text town a; town b; town c; seam a b 1 1; seam b c 1 3; seam a c 1 1; costs = 1;
            sewing(5, 3, 0) = 2
            sewing(5, 3, 1) = 3
            sewing(5, 4, 0) = 3
            sewing(5, 4, 1) = 4
            """);
        SCRIPT.says(20, "that joins all TOWNS of the set (through others, too)", SEVEN + """
            seam a g 9 0; seam b g 9 0; seam c g 9 0; seam d g 9 0; seam e g 9 0; seam f g 9 0; seam a b 9 0; seam c d 9 0; seam e f 9 0; \
            seam a f 9 0; costs = if which < 6 then 1 else 3; thread 0;
            sewing(63, 1, 0) = 6
            sewing(63, 1, 1) = 63
            sewing(127, 99, 0) = 594
            sewing(64, 99, 0) = 0
            sewing(3, 1, 1) = 3
            """);
        SCRIPT.says(20, "SEWING (bits of TOWNS): what 0 THREAD", SEVEN + """
            seam a b 9 0; seam b c 9 0; seam c d 9 0; seam d e 9 0; seam e f 9 0; seam f g 9 0; costs = 99;
            sewing(65, 99, 0) = 58806
            sewing(65, 99, 1) = 63
            """);
    }

    private static void surest() {
        SCRIPT.says(21, "SUREST; -2: not joined; NONE: no such ones, one and the same.", """
            text town a; town b; town c; town d; seam a b 1 99; seam b c 1 98; seam a c 1 97;
            surest(0, 1) = 99
            surest(0, 2) = 98
            surest(2, 0) = 98
            surest(0, 3) = -2
            surest(3, 3) = -1
            surest(0, 0) = -1
            surest(0, 4) = -1
            surest(4, 0) = -1
            surest(-1, 0) = -1
            cut(1) = 98
            surest(0, 2) = 97
            unpick(2, 96) = 196
            surest(0, 2) = 1
            unpick(2, 1) = 197
            surest(0, 2) = -2
            """);
        SCRIPT.says(21, "of all ways that one by which the SEAM sewn least is sewn most: how well that is", LINE + """

            surest(0, 6) = 1
            surest(1, 6) = 2
            surest(5, 6) = 6
            """);
    }

    private static void soon() {
        // Each SEAM is WHOLE in just the week in which it is come to, but not the other way about.
        SCRIPT.says(22, "SOON (0 to itself); -2: not; NONE: no such ones.", LINE + """

            soon(0, 0) = 0
            soon(0, 1) = 1
            soon(0, 6) = 6
            soon(6, 0) = -2
            soon(6, 3) = 3
            soon(6, 2) = -2
            soon(0, 7) = -1
            soon(7, 0) = -1
            soon(-1, 0) = -1
            unpick(5, 1) = 101
            soon(0, 6) = -2
            soon(0, 5) = 5
            weeks(1) = 1
            soon(0, 1) = -2
            soon(1, 5) = 4
            weeks(60) = 61
            soon(1, 5) = -2
            soon(1, 1) = 0
            """);
        SCRIPT.says(22, "one SEAM a week, or staying, while all wears, without FROSTS, nothing carted: the fewest WEEKS (0 .. 40)", LINE + """
            wears = frosty*99+carted*99+1; frost 100; cart x a g 9;
            send(0) = 1
            soon(0, 6) = 6
            """);
    }

    private static void holds() {
        String sentence = "HOLDS between two TOWNS: behind how many WEEKS (0 .. 200), likewise, they are joined no more.";
        for (int week : new int[] {0, 1, 60, 198, 199, 200, 201}) {
            // Behind week + 1 weeks it has come apart.
            SCRIPT.says(23, sentence, "text town a; town b; seam a b 9 99; wears = if week < " + week + " then 0 else 99;\nholds(0, 1) = "
                + (week < 200 ? week + 1 : -2));
        }
        SCRIPT.says(23, "HOLDS (0: not now); -2: for good; NONE: no such ones, one and the same.", """
            text town a; town b; town c; seam a b 9 1; seam b c 9 0;
            holds(0, 1) = 1
            holds(0, 2) = 0
            holds(1, 2) = 0
            holds(0, 0) = -1
            holds(0, 3) = -1
            holds(3, 0) = -1
            holds(-1, 0) = -1
            weeks(1) = 1
            holds(0, 1) = 0
            sew(0, 99) = 99
            holds(0, 1) = 99
            text town a; town b; seam a b 9 99; wears = if sewn < 50 then 0 else 1;
            holds(0, 1) = -2
            text town a; town b; seam a b 9 1; wears = 0;
            holds(0, 1) = -2
            text town a; town b; seam a b 9 99; wears = frosty*99+carted*99+9; frost 100; cart c a b 9;
            send(0) = 1
            holds(0, 1) = 11
            text town a; town b; seam a b 9 99; wears = if week < 230 then 0 else 99;
            holds(0, 1) = -2
            weeks(30) = 30
            holds(0, 1) = -2
            weeks(1) = 31
            holds(0, 1) = 200
            """);
    }

    private static void rows() {
        SCRIPT.says(24, "in how few walks, without lifting the thread, along each WHOLE SEAM once, all can be gone along", LINE + """
            seam g a 1 9; seam a c 1 9; seam a d 1 0; wears = 0;
            rows() = 1
            sew(8, 1) = 1
            rows() = 1
            cut(7) = 9
            rows() = 1
            cut(6) = 9
            cut(8) = 1
            rows() = 1
            cut(1) = 2
            rows() = 2
            cut(3) = 4
            rows() = 3
            times 9 cut(0)
            times 9 cut(2)
            times 9 cut(4)
            rows() = 1
            cut(5) = 6
            rows() = 0
            """);
        SCRIPT.says(24, "in how few walks", SEVEN + """
            seam a b 1 1; seam b c 1 1; seam c a 1 1; seam d e 1 1; seam e f 1 1; seam f d 1 1;
            rows() = 2
            """);
        SCRIPT.says(24, "in how few walks", SEVEN + """
            seam g a 1 1; seam g b 1 1; seam g c 1 1; seam g d 1 1; seam g e 1 1; seam g f 1 1;
            rows() = 3
            cut(0) = 1
            rows() = 3
            cut(1) = 1
            rows() = 2
            """);
    }

    private static void march() {
        SCRIPT.says(25, "MARCH; -2: there are no SEAMS; NONE: no such n.", """
            text town a; town b; woman w 9;
            march(0) = -2
            march(60) = -2
            march(61) = -1
            march(-1) = -1
            text town a; town b; town c; seam a b 1 0; seam b c 1 10; woman w 1; thread 0;
            march(0) = 0
            march(1) = 1
            march(9) = 9
            march(10) = 10
            march(11) = 10
            march(12) = 11
            march(60) = 35
            march(61) = -1
            march(-1) = -1
            """);
        SCRIPT.says(25, "laid on SEAMS so that the one sewn least is sewn most (99 at most; THREAD, wear not looked at)", """
            text town a; town b; seam a b 1 97; woman w 1; wears = 99; thread 0;
            march(0) = 97
            march(1) = 98
            march(2) = 99
            march(3) = 99
            march(60) = 99
            text town a; town b; town c; seam a b 1 99; seam b c 1 0; woman w 33; woman v 65;
            march(1) = 98
            march(2) = 99
            text town a; town b; town c; seam a b 1 99; seam b c 1 4;
            march(60) = 4
            """);
        SCRIPT.says(25, "MARCH for n WEEKS (0 .. 60)", SEVEN + """
            seam a b 1 0; seam a c 1 0; seam a d 1 0; seam a e 1 0; seam a f 1 0; seam a g 1 0; seam b c 1 0; seam b d 1 0; seam b e 1 0; \
            seam b f 1 0; woman x 99; woman y 99; woman z 99;
            march(3) = 89
            march(4) = 99
            march(60) = 99
            """);
    }

    private static void doubles() {
        SCRIPT.says(26, "DOUBLE (s 1 .. 99); -2: none; NONE: no such ones, one and the same TOWN.", """
            text town a; town b; town c; seam a b 9 5; thread 0;
            doubles(0, 1, 1) = 0
            doubles(0, 1, 99) = 0
            doubles(0, 1, 0) = -1
            doubles(0, 1, 100) = -1
            doubles(0, 2, 99) = -2
            doubles(0, 0, 1) = -1
            doubles(0, 3, 1) = -1
            doubles(3, 0, 1) = -1
            doubles(-1, 0, 1) = -1
            text town a; town b;
            doubles(0, 1, 1) = -2
            """);
        SCRIPT.says(26, "the SEAM that, sewn s more now (99 at most), lets two TOWNS HOLD longest, longer than now; of alike ones the first.", """
            text town a; town b; seam a b 9 99;
            doubles(0, 1, 1) = -2
            text town a; town b; seam a b 9 98;
            doubles(0, 1, 1) = 0
            doubles(0, 1, 99) = 0
            text town a; town b; seam a b 9 0;
            doubles(0, 1, 1) = 0
            text town a; town b; town c; seam a b 9 5; seam b c 9 5;
            doubles(0, 2, 99) = -2
            doubles(0, 1, 1) = 0
            doubles(1, 2, 1) = 1
            text town a; town b; town c; seam a b 9 5; seam b c 9 6;
            doubles(0, 2, 99) = 0
            text town a; town b; town c; seam c b 9 9; seam a c 9 5; seam a b 9 5;
            doubles(0, 1, 3) = 1
            doubles(0, 1, 4) = 1
            doubles(0, 1, 5) = 2
            text town a; town b; town c; seam a b 9 5; seam a c 9 5; seam c b 9 9;
            doubles(0, 1, 3) = 0
            text town a; town b; town c; seam a c 9 96; seam a b 9 95; seam c b 9 99;
            doubles(0, 1, 4) = 0
            doubles(0, 1, 3) = 0
            doubles(0, 1, 99) = 0
            text town a; town b; town c; seam a c 9 94; seam a b 9 95; seam c b 9 98;
            doubles(0, 1, 3) = 1
            doubles(0, 1, 5) = 1
            """);
    }

    private static void doublesForGood() {
        SCRIPT.says(26, "lets two TOWNS HOLD longest, longer than now", """
            text town a; town b; seam a b 9 5; wears = 0;
            doubles(0, 1, 1) = -2
            text town a; town b; seam a b 9 0; wears = 0;
            doubles(0, 1, 1) = 0
            text town a; town b; seam a b 9 49; wears = if week < 150 then 0 else 1;
            holds(0, 1) = 199
            doubles(0, 1, 1) = 0
            sew(0, 1) = 1
            holds(0, 1) = 200
            doubles(0, 1, 1) = 0
            sew(0, 1) = 1
            holds(0, 1) = -2
            doubles(0, 1, 1) = -2
            """);
        // Seam 0 would hold 201 weeks, seam 1 for ever: both are for good, the first is taken.
        SCRIPT.says(26, "of alike ones the first", """
            text town a; town b; town c; seam a b 9 50; seam a c 9 10; seam c b 9 99; \
            wears = if 0 < which*(sewn-10) then 0 else if 0 < which then 1 else if week < 150 then 0 else 1;
            holds(0, 1) = 200
            doubles(0, 1, 1) = 0
            cut(0) = 50
            holds(0, 1) = 10
            doubles(0, 1, 1) = 1
            doubles(0, 1, 50) = 1
            doubles(0, 1, 51) = 0
            """);
    }

    private static void then() {
        SCRIPT.says(27, "IN n WEEKS how well a SEAM is sewn; NONE: no such ones.", """
            text town a; town b; seam a b 9 61; cart c a b 5; frost 100; wears = frosty+carted*week;
            then(0, 0) = 61
            then(0, 1) = 60
            then(0, 60) = 1
            then(0, 61) = -1
            then(0, -1) = -1
            then(1, 0) = -1
            then(-1, 0) = -1
            weeks(2) = 2
            then(0, 0) = 59
            then(0, 58) = 1
            then(0, 59) = 0
            then(0, 60) = 0
            send(0) = 1
            then(0, 1) = 48
            then(0, 49) = 0
            then(0, 48) = 1
            seam(0, 3) = 59
            """);
    }

    private static void cartIn() {
        SCRIPT.says(28, "IN n WEEKS of a CART: what 0 at which TOWN it is, 1 what it has paid more, 2 weeks STRANDED more; NONE: no such ones.", """
            text town a; town b; town c; seam a b 9 50; seam b c 8 2; cart x a c 5; cart y c b 1;
            cartIn(0, 0, 0) = 0
            cartIn(0, 60, 0) = 0
            cartIn(0, 60, 1) = 0
            cartIn(0, 60, 2) = 0
            send(0) = 1
            cartIn(0, 0, 0) = 0
            cartIn(0, 0, 1) = 0
            cartIn(0, 0, 2) = 0
            cartIn(0, 1, 0) = 1
            cartIn(0, 1, 1) = 9
            cartIn(0, 2, 0) = 2
            cartIn(0, 60, 1) = 17
            cartIn(0, 60, 2) = 0
            cartIn(0, 61, 0) = -1
            cartIn(0, -1, 0) = -1
            cartIn(0, 1, -1) = -1
            cartIn(0, 1, 3) = -1
            cartIn(2, 1, 0) = -1
            cartIn(-1, 1, 0) = -1
            weeks(1) = 1
            cartIn(0, 0, 0) = 1
            cartIn(0, 1, 1) = 8
            cut(1) = 1
            cartIn(0, 60, 0) = 1
            cartIn(0, 60, 1) = 0
            cartIn(0, 60, 2) = 60
            weeks(5) = 6
            cart(0, 6) = 5
            cartIn(0, 60, 2) = 60
            cartIn(0, 0, 2) = 0
            """);
    }

    private static void year() {
        SCRIPT.says(29, "YEAR by s SEEDS (1 .. 20) from the text's SEED on: in how many of them two TOWNS are joined behind n WEEKS (0 .. 60).", """
            text town a; town b; town c; seam a b 9 60; frost 100; wears = frosty;
            year(0, 1, 0, 1) = 1
            year(0, 1, 0, 20) = 20
            year(0, 1, 59, 20) = 20
            year(0, 1, 60, 20) = 0
            year(0, 2, 0, 20) = 0
            year(0, 1, 61, 1) = -1
            year(0, 1, -1, 1) = -1
            year(0, 1, 1, 0) = -1
            year(0, 1, 1, 21) = -1
            year(0, 0, 1, 1) = -1
            year(0, 3, 1, 1) = -1
            year(3, 0, 1, 1) = -1
            year(-1, 0, 1, 1) = -1
            text town a; town b; seam a b 9 60; frost 0; wears = frosty*99+1;
            year(0, 1, 59, 20) = 20
            year(0, 1, 60, 1) = 0
            weeks(1) = 1
            year(0, 1, 58, 1) = 1
            year(0, 1, 59, 1) = 0
            """);
        // CARTS that are on the road wear SEAMS in a YEAR, too.
        SCRIPT.says(29, "YEAR; NONE: no such ones, one and the same TOWN.", """
            text town a; town b; seam a b 9 60; cart c a b 60; wears = carted; frost 50;
            year(0, 1, 60, 20) = 20
            send(0) = 1
            year(0, 1, 0, 20) = 20
            year(0, 1, 1, 20) = 0
            """);
    }

    private static void yearBySeeds() {
        SCRIPT.quoted("by s SEEDS (1 .. 20) from the text's SEED on");
        for (int seed : new int[] {0, 1, 77, 9979, 9980, 9981, 9999}) {
            for (int week : new int[] {0, 1, 7}) {
                for (int s : new int[] {1, 2, 19, 20}) {
                    SewnRoads x = Check.roads("town a; town b; seam a b 9 9; frost 50; wears = frosty*9; seed " + seed + ";");
                    x.weeks(week);
                    x.sew(0, 9);
                    x.unpick(0, 99);
                    x.sew(0, 9);
                    int one = 0;
                    int two = 0;
                    for (int i = seed; i < seed + s; i++) {
                        boolean holds = TextBoundsTest.lot(i, 4 * week) >= 50;
                        one += holds ? 1 : 0;
                        two += holds && TextBoundsTest.lot(i, 4 * week + 4) >= 50 ? 1 : 0;
                    }
                    String label = "seed " + seed + ", week " + week + ": year(0, 1, ";
                    CHECK.due(label + "0, " + s + ")", x.year(0, 1, 0, s), s);
                    CHECK.due(label + "1, " + s + ")", x.year(0, 1, 1, s), one);
                    CHECK.due(label + "2, " + s + ")", x.year(0, 1, 2, s), two);
                }
            }
        }
    }

    private static void tell() {
        SCRIPT.says(30, "It is TOLD (0 .. 999): its number; NONE, and nothing happens: 20 are there, no such ones, one and the same TOWN.", """
            text town a; town b; seam a b 9 9;
            tell(0, 1, -1) = -1
            tell(0, 1, 1000) = -1
            tell(0, 0, 1) = -1
            tell(1, 1, 1) = -1
            tell(0, 2, 1) = -1
            tell(2, 0, 1) = -1
            tell(-1, 0, 1) = -1
            count(10) = 0
            tell(0, 1, 0) = 0
            tell(1, 0, 999) = 1
            tell(1, 0, 999) = 2
            times 16 tell(0, 1, 1)
            count(10) = 19
            tell(0, 1, 1) = 19
            tell(0, 1, 1) = -1
            tell(0, 1, 1000) = -1
            count(10) = 20
            cuts(20, 0) = 0
            cuts(21, 0) = -1
            ask(20) = -2
            ask(21) = -1
            cuts(1, 1) = 1
            """);
    }

    private static void knownBy() {
        SCRIPT.says(32, "20 at most, numbered from 0 on; KNOWN by k: the first k.", """
            text town a; town b; town c; seam a b 9 9; seam b c 9 9; seam a c 9 9;
            tell(0, 1, 18) = 0
            times 18 tell(0, 2, 9)
            tell(1, 2, 18) = 19
            tell(1, 2, 9) = -1
            cuts(0, 1) = 7
            cuts(1, 1) = 1
            cuts(19, 1) = 1
            cuts(20, 1) = 0
            ask(0) = 1
            ask(19) = 1
            ask(20) = -2
            """);
    }

    private static void forget() {
        SCRIPT.says(31, "All that was TOLD is forgotten: how many there were.", """
            forget() = 0
            text town a; town b; seam a b 9 9;
            forget() = 0
            times 20 tell(0, 1, 5)
            forget() = 20
            forget() = 0
            count(10) = 0
            cuts(1, 0) = -1
            tell(0, 1, 0) = 0
            cuts(1, 0) = 1
            forget() = 1
            """);
    }

    private static void cuts() {
        SCRIPT.says(32, "CUTS, as KNOWN by k: what 0 how many, 1 which (bits); NONE: no such ones.", """
            text town a; town b; town c; seam a b 9 9; seam b c 9 1; seam a c 18 9;
            cuts(0, 0) = 3
            cuts(0, 1) = 7
            cuts(-1, 0) = -1
            cuts(1, 0) = -1
            cuts(0, -1) = -1
            cuts(0, 2) = -1
            tell(1, 0, 9) = 0
            tell(2, 0, 18) = 1
            tell(1, 2, 9) = 2
            cuts(0, 1) = 7
            cuts(1, 1) = 6
            cuts(2, 1) = 6
            cuts(3, 1) = 4
            cuts(3, 0) = 1
            cuts(4, 0) = -1
            weeks(1) = 1
            cuts(0, 1) = 5
            cuts(3, 1) = 0
            """);
        SCRIPT.says(32, "measured to be so long (1 .. 999; 0: not joined), behind a cut", """
            text town a; town b; town c; seam a b 9 9; seam b c 9 9;
            tell(0, 2, 0) = 0
            cuts(1, 1) = 3
            tell(0, 1, 0) = 1
            cuts(2, 1) = 1
            tell(1, 2, 9) = 2
            cuts(3, 1) = 1
            tell(1, 2, 10) = 3
            cuts(4, 1) = 0
            cuts(4, 0) = 0
            """);
        SCRIPT.says(32, "CUTS: WHOLE SEAMS, as all is now, of which one was CUT, so that all that is KNOWN is so", SEVEN + """
            seam a b 99 9; seam b c 99 9; seam c d 99 9; seam d e 99 9; seam e f 99 9; seam f g 99 9; seam g a 99 0; wears = 0;
            tell(0, 6, 594) = 0
            cuts(1, 1) = 0
            sew(6, 1) = 1
            cuts(1, 1) = 64
            tell(0, 6, 99) = 1
            cuts(2, 1) = 0
            cuts(1, 0) = 1
            """);
    }

    private static void ask() {
        // Cutting seam 0 moves only f and g apart, cutting seam 1 no two, cutting seam 2 only e and f.
        SCRIPT.says(33, "of alike ones the first by the lesser TOWN, then by the other one.", SEVEN + """
            seam f g 1 5; seam e g 2 5; seam e f 1 5;
            ask(0) = 45
            tell(5, 4, 1) = 0
            cuts(1, 1) = 3
            ask(1) = 56
            tell(6, 5, 3) = 1
            cuts(2, 1) = 1
            ask(2) = 1
            tell(0, 1, 5) = 2
            cuts(3, 0) = 0
            ask(3) = -2
            ask(2) = 1
            ask(0) = 45
            """);
        SCRIPT.says(33, "ASK, as KNOWN by k: 10 * the lesser TOWN + the other one; -2: no CUTS, no two TOWNS; NONE: no such k.", """
            ask(0) = -2
            ask(1) = -1
            ask(-1) = -1
            text town a;
            ask(0) = -2
            ask(1) = -1
            text town a; town b; seam b a 9 0;
            ask(0) = -2
            sew(0, 1) = 1
            ask(0) = 1
            ask(1) = -1
            tell(0, 1, 9) = 0
            ask(1) = -2
            ask(0) = 1
            """);
        // Ten SEAMS, of which each two TOWNS tell one from the other nine.
        SCRIPT.says(33, "ASK: the two TOWNS whose way, once it is measured, leaves fewest, at worst", """
            text town a; town b; town c; town d; town e; seam d e 1 5; seam a c 1 5; seam a d 1 5; seam a e 1 5; seam b c 1 5; seam b d 1 5; \
            seam b e 1 5; seam c d 1 5; seam c e 1 5; seam a b 1 5;
            ask(0) = 1
            tell(0, 1, 1) = 0
            cuts(1, 0) = 9
            ask(1) = 2
            """);
        // Of four in a line a and b leave one or three, a and c two at worst; of three in a line both leave two at worst.
        SCRIPT.says(33, "ASK: the two TOWNS whose way, once it is measured, leaves fewest, at worst", """
            text town a; town b; town c; town d; town e; seam a b 1 5; seam b c 1 5; seam c d 1 5; seam d e 1 5;
            ask(0) = 2
            text town a; town b; town c; town d; seam a b 1 5; seam b c 1 5; seam c d 1 5;
            ask(0) = 1
            text town d; town b; town a; town c; seam a b 1 5; seam b c 1 5; seam c d 1 5; seam a d 9 5;
            ask(0) = 1
            """);
    }
}
