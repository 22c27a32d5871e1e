/** Promises 6 to 14 and 34 to 36: what there is, what is done, undone, held. */
public final class DoneTest {
    private static final Check CHECK = new Check("DoneTest");
    private static final Script SCRIPT = new Script(CHECK);

    // Two ways from a to c that are alike: the seam told first is taken.
    private static final String TWO_WAYS = """
        text town a; town b; town c; town d; seam a b 5 50; seam b c 5 50; seam a d 4 50; seam d c 6 50; \
        cart x a c 3; cart y c a 9; wears = carted; toll = load*2+which;
        """;

    public static void main(String[] args) {
        seam();
        cart();
        strandedCart();
        cartsTakeTheShorterWay();
        toll();
        sew();
        cut();
        unpick();
        send();
        weeks();
        frosts();
        undo();
        undoOnlyTheLastForty();
        hold();
        restore();
        count();
        fullText();
        CHECK.end();
    }

    private static void seam() {
        SCRIPT.run(6, """
            text town a; town b; town c; seam b a 7 3; seam c b 9 0; costs = new*50+ways; wears = frosty*40+carted+2; \
            puckers = sewn*2; frost 100;
            seam(0, 0) = 1
            seam(0, 1) = 0
            seam(0, 2) = 7
            seam(0, 3) = 3
            seam(0, 4) = 2
            seam(0, 5) = 2
            seam(0, 6) = 1
            seam(0, 7) = -1
            seam(0, -1) = -1
            seam(1, 0) = 2
            seam(1, 1) = 1
            seam(1, 3) = 0
            seam(1, 4) = 51
            seam(1, 6) = 9
            seam(2, 0) = -1
            seam(-1, 0) = -1
            seam(2147483647, 3) = -1
            seam(-2147483648, 3) = -1
            sew(0, 1) = 1
            seam(0, 3) = 4
            seam(0, 6) = 1
            """);
        SCRIPT.run(6, """
            text town a; town b; seam a b 7 3; puckers = 99;
            seam(0, 6) = 1
            text town a; town b; seam a b 7 3; puckers = 6;
            seam(0, 6) = 1
            text town a; town b; seam a b 7 3; puckers = 5;
            seam(0, 6) = 2
            text town a; town b; seam a b 7 3; puckers = 0-5;
            seam(0, 6) = 7
            """);
    }

    private static void cart() {
        SCRIPT.run(7, TWO_WAYS + """
            cart(0, 0) = 0
            cart(0, 1) = 2
            cart(0, 2) = 3
            cart(0, 3) = 0
            cart(0, 4) = 0
            cart(0, 5) = 0
            cart(0, 6) = 0
            cart(0, 7) = 0
            cart(0, 8) = -1
            cart(0, -1) = -1
            cart(2, 0) = -1
            cart(-1, 0) = -1
            cart(1, 0) = 2
            cart(1, 1) = 0
            cart(1, 2) = 9
            send(0) = 1
            send(1) = 1
            cart(0, 4) = 1
            weeks(1) = 1
            cart(0, 3) = 1
            cart(0, 4) = 1
            cart(0, 5) = 6
            cart(1, 3) = 1
            cart(1, 5) = 19
            seam(0, 3) = 47
            seam(1, 3) = 41
            seam(2, 3) = 50
            weeks(1) = 2
            cart(0, 3) = 2
            cart(0, 4) = 0
            cart(0, 5) = 13
            cart(0, 7) = 1
            cart(1, 3) = 0
            cart(1, 4) = 0
            cart(1, 5) = 37
            cart(1, 7) = 1
            seam(0, 3) = 38
            seam(1, 3) = 38
            weeks(1) = 3
            seam(0, 3) = 38
            seam(1, 3) = 38
            send(0) = 1
            cart(0, 3) = 0
            cart(0, 4) = 1
            cart(0, 5) = 13
            weeks(2) = 5
            cart(0, 5) = 26
            cart(0, 6) = 0
            cart(0, 7) = 2
            """);
        // Two carts along one seam in one week wear it together.
        SCRIPT.run(7, """
            text town a; town b; seam a b 5 50; cart x a b 3; cart y b a 9; wears = carted;
            send(0) = 1
            send(1) = 1
            weeks(1) = 1
            seam(0, 3) = 38
            """);
    }

    private static void strandedCart() {
        SCRIPT.run(7, TWO_WAYS + """
            send(0) = 1
            cut(0) = 50
            cut(2) = 50
            weeks(2) = 2
            cart(0, 3) = 0
            cart(0, 4) = 1
            cart(0, 5) = 0
            cart(0, 6) = 2
            sew(0, 1) = 1
            weeks(1) = 3
            cart(0, 3) = 1
            cart(0, 6) = 2
            cut(1) = 50
            weeks(1) = 4
            cart(0, 3) = 1
            cart(0, 6) = 3
            """);
        // A seam that leads on, but not there, is not taken.
        SCRIPT.run(7, """
            text town a; town b; town c; seam a b 5 50; cart x a c 3;
            send(0) = 1
            weeks(3) = 3
            cart(0, 3) = 0
            cart(0, 6) = 3
            """);
    }

    private static void cartsTakeTheShorterWay() {
        // The direct seam is longer than the way about, until that is cut.
        SCRIPT.run(7, """
            text town a; town b; town c; seam a c 11 50; seam a b 5 50; seam b c 5 50; cart x a c 0; wears = 0;
            send(0) = 1
            weeks(1) = 1
            cart(0, 3) = 1
            cart(0, 5) = 5
            undo() = 1
            cut(2) = 50
            weeks(1) = 1
            cart(0, 3) = 2
            cart(0, 5) = 11
            cart(0, 7) = 1
            """);
        // By pucker: seam 0 is as short as it is sewn well.
        SCRIPT.run(7, """
            text town a; town b; town c; seam a c 20 11; seam a b 5 50; seam b c 5 50; cart x a c 0; puckers = if which < 1 then sewn else 0; \
            wears = 1;
            far(0, 2) = 9
            send(0) = 1
            weeks(1) = 1
            cart(0, 3) = 2
            cart(0, 5) = 20
            far(0, 2) = 10
            hops(0, 2) = 1
            send(0) = 1
            weeks(1) = 2
            cart(0, 3) = 2
            send(0) = 1
            weeks(1) = 3
            cart(0, 3) = 1
            """);
    }

    private static void toll() {
        SCRIPT.run(8, """
            text town a; town b; seam a b 7 0; toll = load+sewn;
            toll(0, 0) = 0
            toll(0, 99) = 99
            toll(0, 100) = -1
            toll(0, -1) = -1
            toll(1, 5) = -1
            toll(-1, 5) = -1
            sew(0, 3) = 3
            toll(0, 5) = 8
            toll(0, 99) = 99
            text town a; town b; seam a b 7 0; toll = 0-load;
            toll(0, 5) = 0
            """);
    }

    private static void sew() {
        SCRIPT.run(9, """
            text town a; town b; seam a b 7 0; costs = 1+new*3; thread 6;
            sew(0, 0) = -1
            sew(0, 100) = -1
            sew(1, 1) = -1
            sew(-1, 1) = -1
            sew(0, 5) = 3
            count(5) = 0
            seam(0, 3) = 3
            sew(0, 1) = -2
            count(9) = 1
            undo() = 1
            count(5) = 6
            seam(0, 3) = 0
            sew(0, 1) = 1
            count(5) = 2
            """);
        SCRIPT.run(9, """
            text town a; town b; seam a b 7 98;
            sew(0, 5) = 1
            count(5) = 99
            sew(0, 5) = -2
            count(9) = 1
            text town a; town b; seam a b 7 0; costs = 0; thread 0;
            sew(0, 99) = 99
            text town a; town b; seam a b 7 0; costs = 0; thread 0;
            sew(0, 98) = 98
            text town a; town b; seam a b 7 2; costs = sewn; thread 6;
            sew(0, 9) = 2
            count(5) = 1
            text town a; town b; seam a b 7 0; costs = 1-new; thread 0;
            sew(0, 9) = 1
            sew(0, 9) = -2
            text town a; town b; seam a b 7 0; costs = new*5; thread 4;
            sew(0, 9) = -2
            count(9) = 0
            """);
    }

    private static void cut() {
        SCRIPT.run(10, """
            text town a; town b; seam a b 7 42;
            cut(1) = -1
            cut(-1) = -1
            cut(0) = 42
            seam(0, 3) = 0
            count(5) = 100
            cut(0) = -2
            count(9) = 1
            undo() = 1
            seam(0, 3) = 42
            """);
    }

    private static void unpick() {
        SCRIPT.run(11, """
            text town a; town b; seam a b 7 5;
            unpick(0, 0) = -1
            unpick(0, 100) = -1
            unpick(1, 1) = -1
            unpick(-1, 1) = -1
            unpick(0, 3) = 103
            seam(0, 3) = 2
            unpick(0, 99) = 105
            seam(0, 3) = 0
            unpick(0, 1) = -2
            count(9) = 2
            undo() = 1
            seam(0, 3) = 2
            count(5) = 103
            text town a; town b; seam a b 7 5; thread 9997;
            unpick(0, 1) = 9998
            unpick(0, 2) = 9999
            unpick(0, 2) = 9999
            seam(0, 3) = 0
            """);
    }

    private static void send() {
        SCRIPT.run(12, TWO_WAYS + """
            send(2) = 0
            send(-1) = 0
            count(9) = 0
            send(1) = 1
            count(7) = 2
            send(1) = 0
            count(9) = 1
            weeks(1) = 1
            send(1) = 0
            weeks(1) = 2
            count(7) = 0
            send(1) = 1
            cart(1, 3) = 2
            undo() = 1
            cart(1, 3) = 0
            cart(1, 4) = 0
            """);
    }

    private static void weeks() {
        SCRIPT.run(13, """
            text town a; town b; seam a b 7 10; wears = week;
            weeks(-1) = -1
            weeks(61) = -1
            weeks(0) = 0
            count(9) = 0
            weeks(4) = 4
            seam(0, 3) = 4
            weeks(0) = 4
            count(9) = 1
            weeks(1) = 5
            seam(0, 3) = 0
            weeks(60) = 65
            seam(0, 3) = 0
            undo() = 1
            undo() = 1
            count(4) = 4
            """);
        // WEARS by how well it is sewn then.
        SCRIPT.run(13, """
            text town a; town b; seam a b 7 80; wears = sewn/2;
            weeks(3) = 3
            seam(0, 3) = 10
            """);
    }

    private static void frosts() {
        // LOT 100 of seed 7 and of the weeks: 78 18 52 49 74 39 33 10 84 88 90 35.
        SCRIPT.run(13, """
            text town a; town b; seam a b 7 50; wears = frosty; seed 7; frost 50;
            count(12) = 0
            seam(0, 5) = 0
            weeks(1) = 1
            seam(0, 3) = 50
            count(12) = 1
            seam(0, 5) = 0
            weeks(1) = 2
            seam(0, 3) = 49
            count(12) = 0
            weeks(10) = 12
            seam(0, 3) = 44
            text town a; seed 7; frost 52;
            weeks(2) = 2
            count(12) = 0
            text town a; seed 7; frost 53;
            weeks(2) = 2
            count(12) = 1
            text town a; seed 7; frost 0;
            weeks(2) = 2
            count(12) = 0
            text town a; frost 100; seed 9999;
            count(12) = 1
            weeks(60) = 60
            count(12) = 1
            text frost 1; town a; seed 45;
            count(12) = 1
            weeks(1) = 1
            count(12) = 0
            text frost 99; town a;
            weeks(5) = 5
            count(12) = 0
            text frost 100; town a;
            weeks(5) = 5
            count(12) = 1
            text frost 16; town a;
            count(12) = 0
            weeks(2) = 2
            count(12) = 1
            """);
    }

    private static void undo() {
        SCRIPT.run(14, """
            text town a; town b; seam a b 7 5; cart c a b 1; toll = 3;
            undo() = 0
            sew(0, 2) = 2
            cut(0) = 7
            sew(0, 4) = 4
            unpick(0, 1) = 95
            send(0) = 1
            weeks(1) = 1
            cart(0, 5) = 3
            count(9) = 6
            undo() = 1
            count(4) = 0
            seam(0, 3) = 3
            cart(0, 3) = 0
            cart(0, 4) = 1
            cart(0, 5) = 0
            cart(0, 7) = 0
            undo() = 1
            cart(0, 4) = 0
            undo() = 1
            seam(0, 3) = 4
            count(5) = 94
            undo() = 1
            seam(0, 3) = 0
            count(5) = 98
            undo() = 1
            seam(0, 3) = 7
            undo() = 1
            seam(0, 3) = 5
            count(5) = 100
            undo() = 0
            count(9) = 0
            """);
    }

    private static void undoOnlyTheLastForty() {
        SewnRoads x = Check.roads("town a; town b; seam a b 7 0;");
        for (int i = 1; i <= 45; i++) {
            x.sew(0, 1);
            CHECK.due("promise 36: count(9)", x.count(9), Math.min(40, i));
        }
        for (int i = 44; i >= 5; i--) {
            CHECK.due("promise 14: undo()", x.undo(), true);
            CHECK.due("promise 14: sewn behind undo()", x.seam(0, 3), i);
        }
        CHECK.due("promise 14: a 41st undo()", x.undo(), false);
        CHECK.due("promise 14: sewn behind it", x.seam(0, 3), 5);
        x.sew(0, 1);
        CHECK.due("promise 14: undo()", x.undo(), true);
        CHECK.due("promise 14: sewn", x.seam(0, 3), 5);
    }

    private static void hold() {
        SCRIPT.run(34, """
            text town a; town b; seam a b 7 5; cart c a b 1; wears = 0;
            hold(-1) = 0
            hold(3) = 0
            count(11) = 0
            sew(0, 1) = 1
            hold(0) = 1
            count(9) = 1
            count(11) = 1
            hold(0) = 1
            count(11) = 1
            hold(2) = 1
            hold(1) = 1
            count(11) = 3
            undo() = 1
            seam(0, 3) = 5
            restore(2) = 1
            seam(0, 3) = 6
            hold(2) = 1
            cut(0) = 6
            hold(2) = 1
            restore(0) = 1
            seam(0, 3) = 6
            restore(2) = 1
            seam(0, 3) = 0
            """);
    }

    private static void restore() {
        SCRIPT.run(35, """
            text town a; town b; seam a b 7 5; cart c a b 1; thread 9; toll = 4;
            restore(0) = 0
            restore(-1) = 0
            restore(3) = 0
            sew(0, 1) = 1
            send(0) = 1
            hold(1) = 1
            restore(0) = 0
            count(9) = 2
            tell(0, 1, 7) = 0
            weeks(2) = 2
            unpick(0, 1) = 9
            tell(0, 1, 0) = 1
            feed(0, 0, 0, 0, 0) = 20
            restore(1) = 1
            count(4) = 0
            count(5) = 8
            count(7) = 1
            count(8) = 20
            count(9) = 0
            count(10) = 2
            count(11) = 1
            seam(0, 3) = 6
            cart(0, 3) = 0
            cart(0, 5) = 0
            cart(0, 7) = 0
            undo() = 0
            weeks(1) = 1
            cart(0, 5) = 4
            undo() = 1
            weeks(3) = 3
            restore(1) = 1
            count(4) = 0
            restore(2) = 0
            """);
    }

    /** As much of each sort as there may be: a ring of seven towns with three chords. */
    private static void fullText() {
        SCRIPT.run(36, """
            text town a; town b; town c; town d; town e; town f; town g; seam a b 2 9; seam b c 2 9; seam c d 2 9; seam d e 2 9; \
            seam e f 2 9; seam f g 2 9; seam g a 2 9; seam a c 5 9; seam b d 5 9; seam c e 5 9; woman h 10; woman i 10; woman j 10; \
            cart k a b 1; cart l b c 2; cart m c d 3; cart n d a 4;
            count(0) = 7
            count(1) = 10
            count(2) = 3
            count(3) = 4
            count(6) = 1023
            count(13) = 30
            count(14) = 90
            seam(9, 0) = 2
            seam(9, 1) = 4
            seam(10, 0) = -1
            cart(3, 0) = 3
            cart(3, 2) = 4
            cart(4, 0) = -1
            far(0, 3) = 6
            hops(0, 3) = 2
            hops(0, 4) = 2
            joined(6) = 127
            hangs() = 0
            rows() = 2
            surest(6, 3) = 9
            holds(0, 3) = 9
            soon(0, 4) = 2
            doubles(0, 3, 1) = -2
            march(0) = 9
            march(1) = 12
            march(60) = 99
            sewing(127, 9, 0) = 0
            sewing(127, 9, 1) = 63
            sewing(127, 10, 0) = 6
            sewing(127, 10, 1) = 63
            sewing(128, 10, 1) = -1
            cuts(0, 0) = 10
            cuts(0, 1) = 1023
            tell(0, 1, 6) = 0
            cuts(1, 1) = 0
            tell(0, 1, 7) = 1
            forget() = 2
            tell(0, 1, 7) = 0
            cuts(1, 1) = 1
            year(0, 1, 8, 20) = 20
            year(0, 1, 9, 20) = 0
            send(0) = 1
            send(1) = 1
            send(2) = 1
            send(3) = 1
            count(7) = 15
            weeks(1) = 1
            count(7) = 8
            cart(3, 3) = 2
            weeks(2) = 3
            cart(3, 3) = 0
            cart(3, 5) = 6
            cart(3, 7) = 1
            count(14) = 60
            """);
    }

    private static void count() {
        SCRIPT.run(36, TWO_WAYS + """
            count(0) = 4
            count(1) = 4
            count(2) = 0
            count(3) = 2
            count(4) = 0
            count(5) = 100
            count(6) = 15
            count(7) = 0
            count(13) = 0
            count(14) = 200
            cut(1) = 50
            count(6) = 13
            count(14) = 150
            send(1) = 1
            count(7) = 2
            send(0) = 1
            count(7) = 3
            count(9) = 3
            tell(0, 1, 5) = 0
            tell(0, 1, 5) = 1
            count(10) = 2
            count(15) = -1
            count(-1) = -1
            text woman a 9; woman b 99; woman c 1;
            count(2) = 3
            count(13) = 109
            feed(1, 2, 3, 4, 5) = 20
            count(8) = 20
            """);
    }
}
