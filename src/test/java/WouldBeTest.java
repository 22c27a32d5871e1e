/** Promises 15 to 33: what is joined, what would be, which seam was cut. */
public final class WouldBeTest {
    private static final Check CHECK = new Check("WouldBeTest");
    private static final Script SCRIPT = new Script(CHECK);

    // A line a - b - c - d, a short cut a - d that is not sewn, and e alone.
    private static final String LINE = """
        text town a; town b; town c; town d; town e; seam a b 10 1; seam c b 4 2; seam c d 7 3; seam a d 2 0;
        """;
    // All six seams between a, b, c, d.
    private static final String FULL = """
        text town a; town b; town c; town d; seam a b 1 5; seam a c 1 5; seam a d 1 5; seam b c 1 5; seam b d 1 5; seam c d 1 5;
        """;

    public static void main(String[] args) {
        far();
        hops();
        joined();
        hangs();
        takes();
        sewing();
        surest();
        soon();
        holds();
        rows();
        march();
        doubles();
        then();
        cartIn();
        year();
        tell();
        cuts();
        ask();
        nothingHappens();
        CHECK.end();
    }

    private static void far() {
        SCRIPT.run(15, LINE + """
            far(0, 3) = 21
            far(3, 0) = 21
            far(0, 1) = 10
            far(2, 2) = 0
            far(4, 4) = 0
            far(0, 4) = -2
            far(4, 0) = -2
            far(0, 5) = -1
            far(5, 0) = -1
            far(5, 5) = -1
            far(-1, 0) = -1
            far(0, -1) = -1
            sew(3, 1) = 1
            far(0, 3) = 2
            far(1, 2) = 4
            far(0, 2) = 9
            far(1, 3) = 11
            cut(1) = 2
            far(1, 2) = 19
            """);
        SCRIPT.run(15, """
            text town a; town b; town c; seam a b 9 5; seam b c 9 4; seam a c 20 9; puckers = sewn;
            far(0, 2) = 9
            far(0, 1) = 4
            far(1, 2) = 5
            unpick(2, 1) = 101
            far(0, 2) = 9
            seam(2, 6) = 12
            sew(1, 9) = 9
            far(0, 2) = 5
            """);
    }

    private static void hops() {
        SCRIPT.run(16, LINE + """
            hops(0, 3) = 3
            hops(3, 1) = 2
            hops(0, 0) = 0
            hops(0, 4) = -2
            hops(0, 5) = -1
            hops(-1, 0) = -1
            sew(3, 1) = 1
            hops(0, 3) = 1
            hops(0, 2) = 2
            """);
        SCRIPT.run(16, """
            text town a; town b; town c; town d; town e; town f; town g; seam a b 1 1; seam b c 1 1; seam c d 1 1; seam d e 1 1; \
            seam e f 1 1; seam f g 1 1;
            hops(0, 6) = 6
            hops(6, 0) = 6
            far(0, 6) = 6
            joined(3) = 127
            """);
    }

    private static void joined() {
        SCRIPT.run(17, LINE + """
            joined(0) = 15
            joined(3) = 15
            joined(4) = 16
            joined(5) = -1
            joined(-1) = -1
            cut(1) = 2
            joined(0) = 3
            joined(3) = 12
            sew(3, 1) = 1
            joined(1) = 15
            """);
    }

    private static void hangs() {
        SCRIPT.run(18, LINE + """
            hangs() = 7
            sew(3, 1) = 1
            hangs() = 0
            cut(0) = 1
            hangs() = 14
            """);
        SCRIPT.run(18, """
            text town a; town b; town c; town d; seam c d 1 1; seam a b 1 1; seam b c 1 1; seam a c 1 1;
            hangs() = 1
            """);
    }

    private static void takes() {
        SCRIPT.run(19, """
            text town a; town b; seam a b 7 0; costs = sewn+new*10; thread 0;
            takes(0, 1) = 10
            takes(0, 3) = 13
            takes(0, 99) = 4861
            takes(0, 0) = -1
            takes(0, 100) = -1
            takes(1, 5) = -1
            takes(-1, 5) = -1
            text town a; town b; seam a b 7 5; costs = week;
            takes(0, 5) = 0
            takes(0, 4) = 0
            takes(0, 7) = 0
            weeks(1) = 1
            takes(0, 7) = 3
            """);
    }

    private static void sewing() {
        // By the hub d it is cheaper than from town to town.
        SCRIPT.run(20, """
            text town a; town b; town c; town d; town e; seam a b 10 0; seam b c 10 0; seam a c 10 0; seam a d 4 0; seam b d 4 0; \
            seam c d 4 0; costs = length; thread 0;
            sewing(7, 1, 0) = 12
            sewing(7, 1, 1) = 56
            sewing(7, 3, 0) = 36
            sewing(3, 1, 0) = 8
            sewing(3, 1, 1) = 24
            sewing(8, 9, 0) = 0
            sewing(8, 9, 1) = 0
            sewing(0, 9, 0) = 0
            sewing(0, 9, 1) = 0
            sewing(16, 9, 1) = 0
            sewing(17, 9, 0) = -2
            sewing(17, 9, 1) = -2
            sewing(31, 1, 0) = -2
            sewing(32, 1, 0) = -1
            sewing(-1, 1, 0) = -1
            sewing(-2147483648, 1, 0) = -1
            sewing(7, 0, 0) = -1
            sewing(7, 100, 0) = -1
            sewing(7, 1, 2) = -1
            sewing(7, 1, -1) = -1
            """);
        // Of alike ones the least bits; what is sewn well enough costs nothing, but is not counted in without need.
        SCRIPT.run(20, FULL + """
            sewing(15, 5, 0) = 0
            sewing(15, 5, 1) = 7
            sewing(15, 6, 0) = 3
            sewing(15, 6, 1) = 7
            sewing(12, 6, 1) = 32
            sewing(12, 5, 1) = 6
            cut(1) = 5
            sewing(12, 5, 1) = 13
            sewing(15, 5, 1) = 13
            sewing(15, 5, 0) = 0
            """);
        SCRIPT.run(20, """
            text town a; town b; town c; seam a b 1 9; seam b c 1 0; seam a c 1 8; costs = 1+new*9;
            sewing(7, 9, 0) = 1
            sewing(7, 9, 1) = 5
            sewing(6, 9, 1) = 5
            sewing(6, 8, 0) = 0
            sewing(6, 99, 0) = 108
            sewing(6, 99, 1) = 2
            """);
    }

    private static void surest() {
        SCRIPT.run(21, LINE + """
            surest(0, 3) = 1
            surest(1, 3) = 2
            surest(2, 3) = 3
            surest(3, 2) = 3
            surest(0, 4) = -2
            surest(0, 0) = -1
            surest(0, 5) = -1
            surest(-1, 0) = -1
            sew(3, 9) = 9
            surest(0, 3) = 9
            surest(0, 2) = 3
            surest(0, 1) = 2
            """);
    }

    private static void soon() {
        SCRIPT.run(22, LINE + """
            soon(0, 3) = 3
            soon(3, 0) = -2
            soon(3, 1) = 2
            soon(0, 0) = 0
            soon(4, 4) = 0
            soon(0, 4) = -2
            soon(0, 5) = -1
            soon(-1, 0) = -1
            sew(3, 1) = 1
            soon(3, 0) = 1
            """);
        // Frosts and carts are not looked at; the week is.
        SCRIPT.run(22, """
            text town a; town b; town c; seam a b 9 5; seam b c 9 5; wears = frosty*99+carted*99+1; frost 100; cart x a c 9;
            send(0) = 1
            soon(0, 2) = 2
            holds(0, 2) = 5
            doubles(0, 2, 5) = -2
            doubles(0, 1, 5) = 0
            weeks(1) = 1
            soon(0, 2) = -2
            text town a; town b; town c; seam a b 9 5; seam b c 9 5; wears = week*99;
            soon(0, 2) = 2
            weeks(1) = 1
            soon(0, 2) = -2
            soon(0, 1) = 1
            """);
    }

    private static void holds() {
        SCRIPT.run(23, LINE + """
            holds(0, 3) = 1
            holds(3, 1) = 2
            holds(2, 3) = 3
            holds(0, 4) = 0
            holds(0, 0) = -1
            holds(0, 5) = -1
            holds(-1, 0) = -1
            sew(3, 9) = 9
            holds(0, 3) = 9
            """);
        SCRIPT.run(23, """
            text town a; town b; seam a b 9 5; wears = 0;
            holds(0, 1) = -2
            text town a; town b; seam a b 9 5; wears = if week < 199 then 0 else 99;
            holds(0, 1) = 200
            text town a; town b; seam a b 9 5; wears = if week < 200 then 0 else 99;
            holds(0, 1) = -2
            weeks(1) = 1
            holds(0, 1) = 200
            text town a; town b; seam a b 9 99; frost 100; wears = frosty*9+carted*9+1; cart c a b 9;
            send(0) = 1
            holds(0, 1) = 99
            """);
        // First one way holds, then the other.
        SCRIPT.run(23, """
            text town a; town b; town c; seam a b 9 20; seam b c 9 6; seam a c 9 30; wears = if which < 2 then 1 else 4;
            holds(0, 1) = 20
            holds(0, 2) = 8
            holds(1, 2) = 8
            """);
    }

    private static void rows() {
        SCRIPT.run(24, LINE + """
            rows() = 1
            cut(1) = 2
            rows() = 2
            cut(0) = 1
            rows() = 1
            cut(2) = 3
            rows() = 0
            """);
        SCRIPT.run(24, FULL + """
            rows() = 2
            cut(0) = 5
            rows() = 1
            cut(5) = 5
            rows() = 1
            """);
        SCRIPT.run(24, """
            text town a; town b; town c; town d; town e; town f; seam a b 1 1; seam a c 1 1; seam a d 1 1; seam a e 1 1; seam a f 1 1;
            rows() = 3
            cut(0) = 1
            rows() = 2
            """);
    }

    private static void march() {
        SCRIPT.run(25, LINE + """
            march(0) = 0
            march(60) = 0
            march(-1) = -1
            march(61) = -1
            """);
        SCRIPT.run(25, """
            text town a; town b; town c; seam a b 1 4; seam b c 1 7; seam a c 1 20; woman x 2; woman y 3;
            march(0) = 4
            march(1) = 8
            march(2) = 10
            march(3) = 13
            march(60) = 99
            weeks(3) = 3
            march(0) = 1
            text town a; town b; seam a b 1 99; woman x 99;
            march(60) = 99
            march(0) = 99
            text town a; woman x 99;
            march(1) = -2
            march(61) = -1
            """);
    }

    private static void doubles() {
        SCRIPT.run(26, LINE + """
            doubles(0, 3, 1) = 0
            doubles(0, 3, 2) = 0
            doubles(0, 3, 3) = 3
            doubles(1, 3, 1) = 1
            doubles(2, 3, 1) = 2
            doubles(2, 3, 99) = 2
            doubles(0, 4, 5) = -2
            doubles(0, 0, 5) = -1
            doubles(0, 5, 5) = -1
            doubles(-1, 0, 5) = -1
            doubles(0, 3, 0) = -1
            doubles(0, 3, 100) = -1
            """);
        SCRIPT.run(26, """
            text town a; town b; seam a b 9 99;
            doubles(0, 1, 99) = -2
            text town a; town b; seam a b 9 98;
            doubles(0, 1, 99) = 0
            text town a; town b; seam a b 9 5; wears = 0;
            doubles(0, 1, 9) = -2
            text town a; town b; seam a b 9 5; wears = if sewn < 6 then 1 else 0;
            doubles(0, 1, 1) = 0
            text town a; town b; seam a b 9 5; wears = if sewn < 6 then 1 else 99;
            doubles(0, 1, 1) = -2
            """);
        // Of alike ones the first: either seam for good.
        SCRIPT.run(26, """
            text town a; town b; town c; seam a c 1 0; seam a b 9 5; seam b c 1 9; wears = if sewn < 10 then 1 else 0;
            doubles(0, 1, 5) = 1
            doubles(0, 2, 10) = 0
            doubles(0, 2, 1) = 1
            """);
    }

    private static void then() {
        SCRIPT.run(27, """
            text town a; town b; seam a b 7 50; wears = frosty*2+carted; seed 7; frost 50; cart c a b 9;
            then(0, 0) = 50
            then(0, 1) = 50
            then(0, 2) = 48
            then(0, 12) = 38
            then(0, 61) = -1
            then(0, -1) = -1
            then(1, 1) = -1
            then(-1, 1) = -1
            send(0) = 1
            then(0, 1) = 41
            then(0, 2) = 39
            count(4) = 0
            seam(0, 3) = 50
            """);
    }

    private static void cartIn() {
        SCRIPT.run(28, """
            text town a; town b; town c; seam a b 7 2; seam b c 5 3; toll = load+which; cart x a c 9; cart y c a 4;
            send(0) = 1
            cartIn(0, 0, 0) = 0
            cartIn(0, 1, 0) = 1
            cartIn(0, 1, 1) = 9
            cartIn(0, 2, 0) = 2
            cartIn(0, 2, 1) = 19
            cartIn(0, 60, 0) = 2
            cartIn(0, 60, 1) = 19
            cartIn(0, 60, 2) = 0
            cartIn(1, 60, 0) = 2
            cartIn(1, 60, 2) = 0
            cartIn(2, 1, 0) = -1
            cartIn(-1, 1, 0) = -1
            cartIn(0, 61, 0) = -1
            cartIn(0, -1, 0) = -1
            cartIn(0, 1, 3) = -1
            cartIn(0, 1, -1) = -1
            weeks(1) = 1
            cartIn(0, 1, 1) = 10
            cartIn(0, 0, 1) = 0
            send(1) = 1
            cartIn(1, 1, 0) = 1
            cartIn(1, 2, 0) = 1
            cartIn(1, 5, 2) = 4
            cartIn(1, 5, 1) = 5
            weeks(3) = 4
            cart(1, 6) = 2
            cartIn(1, 5, 2) = 5
            """);
    }

    private static void year() {
        // LOT 100 of the weeks: seed 7: 78 18; 8: 4; 9: 76 53 67 52 73 50 60 21; 10: 35; 9999: 13; 10000: 47.
        SCRIPT.run(29, """
            text town a; town b; town c; seam a b 7 50; wears = frosty*50; seed 7; frost 50;
            year(0, 1, 0, 4) = 4
            year(0, 1, 1, 1) = 1
            year(0, 1, 1, 4) = 2
            year(0, 1, 2, 4) = 1
            year(0, 1, 7, 4) = 1
            year(0, 1, 8, 4) = 0
            year(0, 1, 60, 20) = 0
            year(0, 2, 0, 20) = 0
            year(0, 0, 1, 1) = -1
            year(0, 3, 1, 1) = -1
            year(-1, 0, 1, 1) = -1
            year(0, 1, -1, 1) = -1
            year(0, 1, 61, 1) = -1
            year(0, 1, 1, 0) = -1
            year(0, 1, 1, 21) = -1
            weeks(1) = 1
            year(0, 1, 1, 4) = 2
            """);
        SCRIPT.run(29, """
            text town a; town b; seam a b 7 50; wears = frosty*50; seed 9999; frost 50;
            year(0, 1, 1, 2) = 0
            text town a; town b; seam a b 7 50; wears = frosty*50; seed 9999; frost 20;
            year(0, 1, 1, 2) = 1
            text town a; town b; seam a b 7 50; wears = frosty*50; seed 45; frost 1;
            year(0, 1, 1, 4) = 3
            text town a; town b; seam a b 7 50; wears = frosty*50; seed 192; frost 99;
            year(0, 1, 1, 1) = 1
            text town a; town b; seam a b 7 50; wears = frosty*50; frost 100;
            year(0, 1, 1, 20) = 0
            year(0, 1, 0, 20) = 20
            text town a; town b; seam a b 7 50; wears = frosty*50;
            year(0, 1, 60, 20) = 20
            text town a; town b; seam a b 7 50; wears = carted*10; cart c a b 5;
            year(0, 1, 60, 20) = 20
            send(0) = 1
            year(0, 1, 60, 20) = 0
            year(0, 1, 0, 20) = 20
            count(4) = 0
            """);
    }

    private static void tell() {
        SewnRoads x = Check.roads("town a; town b; seam a b 7 50;");
        CHECK.due("promise 30: a town and itself", x.tell(0, 0, 5), -1);
        CHECK.due("promise 30: no such town", x.tell(0, 2, 5), -1);
        CHECK.due("promise 30: no such town", x.tell(-1, 0, 5), -1);
        CHECK.due("promise 30: no such way", x.tell(0, 1, -1), -1);
        CHECK.due("promise 30: no such way", x.tell(0, 1, 1000), -1);
        CHECK.due("promise 30: none is told", x.count(10), 0);
        for (int i = 0; i < 20; i++) {
            CHECK.due("promise 30: tell", x.tell(i % 2, 1 - i % 2, i == 0 ? 999 : 0), i);
        }
        CHECK.due("promise 30: a 21st", x.tell(0, 1, 0), -1);
        CHECK.due("promise 30: how many", x.count(10), 20);
        CHECK.due("promise 30: nothing to be undone", x.undo(), false);
        CHECK.due("promise 31: forget()", x.forget(), 20);
        CHECK.due("promise 31: forget()", x.forget(), 0);
        CHECK.due("promise 31: none is told", x.count(10), 0);
        CHECK.due("promise 31: cuts(1, 0)", x.cuts(1, 0), -1);
        CHECK.due("promise 30: numbered from 0 on", x.tell(1, 0, 0), 0);
        CHECK.due("promise 32: cuts(1, 0)", x.cuts(1, 1), 1);
    }

    private static void cuts() {
        SCRIPT.run(32, """
            text town a; town b; town c; town d; seam a b 10 5; seam b c 4 5; seam a c 20 5; seam c d 7 5; seam b d 50 0;
            cuts(0, 0) = 4
            cuts(0, 1) = 15
            cuts(-1, 0) = -1
            cuts(1, 0) = -1
            cuts(0, 2) = -1
            cuts(0, -1) = -1
            tell(2, 0, 20) = 0
            cuts(0, 0) = 4
            cuts(1, 0) = 2
            cuts(1, 1) = 3
            tell(1, 2, 4) = 1
            cuts(2, 1) = 1
            tell(0, 3, 0) = 2
            cuts(3, 0) = 0
            cuts(3, 1) = 0
            cuts(2, 1) = 1
            cuts(4, 0) = -1
            forget() = 3
            tell(0, 3, 0) = 0
            cuts(1, 1) = 8
            cut(3) = 5
            cuts(1, 1) = 7
            cuts(0, 1) = 7
            sew(4, 1) = 1
            cuts(1, 1) = 16
            """);
        // As all is now: by pucker, too.
        SCRIPT.run(32, """
            text town a; town b; seam a b 9 5; town c; seam b c 3 5; seam a c 9 5; puckers = sewn; wears = 0;
            tell(0, 1, 5) = 0
            cuts(1, 1) = 1
            unpick(2, 1) = 101
            cuts(1, 1) = 0
            tell(0, 1, 6) = 1
            cuts(2, 1) = 0
            forget() = 2
            tell(0, 1, 6) = 0
            cuts(1, 1) = 1
            """);
    }

    private static void ask() {
        // A line: each cut tells apart what lies on one side of it; the middle pair is the first that halves them.
        SCRIPT.run(33, """
            text town a; town b; town c; town d; town e; seam a b 1 5; seam b c 1 5; seam c d 1 5; seam d e 1 5;
            ask(0) = 2
            ask(1) = -1
            ask(-1) = -1
            tell(0, 2, 2) = 0
            cuts(1, 1) = 12
            ask(1) = 3
            tell(3, 0, 0) = 1
            cuts(2, 1) = 4
            ask(2) = 1
            tell(0, 1, 0) = 2
            ask(3) = -2
            ask(2) = 1
            ask(0) = 2
            """);
        SCRIPT.run(33, """
            text town a; town b; town c; seam a b 10 5; seam b c 4 5; seam a c 20 5;
            ask(0) = 1
            tell(0, 1, 10) = 0
            cuts(1, 1) = 6
            ask(1) = 2
            text town a;
            ask(0) = -2
            text town a; town b;
            ask(0) = -2
            text town a; town b; seam a b 1 0;
            ask(0) = -2
            sew(0, 1) = 1
            ask(0) = 1
            text town x; town a; town b; town c; seam a b 1 5; seam b c 1 5;
            ask(0) = 12
            """);
    }

    /** What would be changes nothing. */
    private static void nothingHappens() {
        SCRIPT.run(29, """
            text town a; town b; town c; seam a b 7 20; seam b c 5 20; cart x a c 9; woman w 5; frost 50; seed 3; thread 40;
            send(0) = 1
            weeks(1) = 1
            hops(0, 2) = 2
            sewing(7, 99, 0) = 160
            doubles(0, 2, 9) = -2
            march(60) = 99
            soon(0, 2) = 2
            holds(0, 2) = 19
            surest(0, 2) = 19
            year(0, 2, 1, 3) = 3
            then(0, 1) = 18
            cartIn(0, 1, 0) = 2
            takes(0, 99) = 80
            cuts(0, 0) = 2
            ask(0) = 1
            count(4) = 1
            count(5) = 40
            count(7) = 1
            count(9) = 2
            count(10) = 0
            count(14) = 38
            cart(0, 3) = 1
            cart(0, 5) = 7
            """);
    }
}
