/** The sentences that name a bound of what there is and what is done by hand: promises 6 to 14 and 34 to 36. */
public final class DoneBoundsTest {
    private static final Check CHECK = new Check("DoneBoundsTest");
    private static final Script SCRIPT = new Script(CHECK);
    private static final String TWO = "text town a; town b; seam a b 7 5; cart c a b 3; ";

    // The last of four has gone two of three SEAMS, the one ahead of it has been STRANDED twice.
    private static final String FOUR_CARTS = """
        text town a; town b; town c; town d; town e; seam a b 5 9; seam b c 6 9; seam c d 9 9; cart w a b 1; cart x b a 2; cart y a e 3; \
        cart z d a 4; wears = 0; toll = length;
        send(2) = 1
        send(3) = 1
        weeks(2) = 2
        """;
    private static final String FOUR_CARTS_SENT = """
        cart(0, 3) = 0
        cart(1, 3) = 1
        cart(2, 3) = 0
        cart(2, 4) = 1
        cart(2, 6) = 2
        cart(3, 3) = 1
        cart(3, 4) = 1
        cart(3, 5) = 15
        cart(3, 6) = 0
        cart(3, 7) = 0
        """;

    public static void main(String[] args) {
        manyCalls();
        seam();
        cart();
        toll();
        sewAsFarAsThreadGoes();
        sewNinetyNineAtMost();
        sewEachAtItsCosts();
        cut();
        unpick();
        send();
        weeks();
        undo();
        lastForty();
        hold();
        restore();
        count();
        CHECK.end();
    }

    private static void manyCalls() {
        SCRIPT.quoted("An object is used for at most 512 calls after it has been made");
        SewnRoads x = new SewnRoads();
        String text = "town a; town b; seam a b 7 5; wears = 0;";
        CHECK.due("read()", Check.read(x, text), 0);
        // Behind two feeds, a back and a read.
        int week = 0;
        for (int call = 5; call <= 510; call++) {
            week += 60;
            CHECK.due("call " + call, x.weeks(60), week);
        }
        CHECK.due("call 511", x.undo(), true);
        CHECK.due("call 512", x.count(4), week - 60);
        // Paid, stranded and come as often as 512 calls can have it.
        SewnRoads y = Check.roads("town a; town b; seam a b 7 5; cart c a b 3; wears = 0; toll = 99;");
        for (int i = 1; i <= 250; i++) {
            y.send(0);
            y.weeks(1);
        }
        CHECK.due("paid", y.cart(0, 5), 99 * 250);
        CHECK.due("came", y.cart(0, 7), 250);
        SewnRoads z = Check.roads("town a; town b; seam a b 7 0; cart c a b 3; frost 50; wears = week;");
        z.send(0);
        for (int i = 1; i <= 500; i++) {
            z.weeks(60);
        }
        CHECK.due("stranded", z.cart(0, 6), 30000);
        CHECK.due("the week", z.count(4), 30000);
        CHECK.due("WEARS by the week", z.seam(0, 5), 99);
        CHECK.due("a FROST then", z.count(12), TextBoundsTest.lot(0, 120000) < 50 ? 1 : 0);
    }

    private static void seam() {
        SCRIPT.says(6, "what 0, 1 its TOWNS (the one told first is first)", """
            text town a; town b; town c; seam c a 7 5; seam a b 7 5;
            seam(0, 0) = 2
            seam(0, 1) = 0
            seam(1, 0) = 0
            seam(1, 1) = 1
            """);
        SCRIPT.says(6, "4 COSTS now, 5 WEARS now (no FROST, nothing carted), 6 its WAY now. NONE for others.", """
            text town a; town b; seam a b 50 5; cart c a b 3; costs = week+sewn; wears = frosty*50+carted*50+week+sewn; puckers = week+sewn; frost 100;
            seam(0, 4) = 5
            seam(0, 5) = 5
            seam(0, 6) = 45
            sew(0, 90) = 10
            send(0) = 1
            seam(0, 5) = 15
            weeks(1) = 1
            seam(0, 3) = 0
            seam(0, 4) = 1
            seam(0, 5) = 1
            seam(0, 6) = 49
            seam(0, 7) = -1
            seam(0, -1) = -1
            seam(1, 3) = -1
            """);
        SCRIPT.says(6, "4 COSTS now", TWO + """
            costs = 99-sewn; thread 9999;
            sew(0, 99) = 94
            seam(0, 3) = 99
            seam(0, 4) = 0
            """);
    }

    private static void cart() {
        SCRIPT.says(7, "3 at which it is, 4: 1 on the road, else 0, 5 what it has paid so far, 6 weeks in which it was STRANDED so far, "
            + "7 how often it came there. NONE for others.", """
            text town a; town b; town c; seam b a 7 50; seam b c 7 50; cart x c a 3; cart y a b 0; toll = load+1; wears = 0;
            cart(0, 3) = 2
            cart(0, 4) = 0
            cart(0, 5) = 0
            cart(0, 6) = 0
            cart(0, 7) = 0
            weeks(9) = 9
            cart(0, 3) = 2
            cart(0, 6) = 0
            send(0) = 1
            weeks(1) = 10
            cart(0, 3) = 1
            cart(0, 4) = 1
            cart(0, 5) = 4
            cart(0, 7) = 0
            cut(0) = 50
            weeks(1) = 11
            cart(0, 6) = 1
            cart(0, 5) = 4
            sew(0, 1) = 1
            weeks(1) = 12
            cart(0, 3) = 0
            cart(0, 4) = 0
            cart(0, 5) = 8
            cart(0, 7) = 1
            send(0) = 1
            cart(0, 3) = 2
            cart(0, 5) = 8
            cart(0, 6) = 1
            cart(0, 7) = 1
            weeks(2) = 14
            cart(0, 5) = 16
            cart(0, 7) = 2
            cart(1, 5) = 0
            cart(0, 8) = -1
            cart(0, -1) = -1
            cart(2, 3) = -1
            """);
    }

    private static void toll() {
        SCRIPT.says(8, "TOLL of a SEAM for a LOAD (0 .. 99) now; NONE: no such ones.", TWO + """
            toll = load+sewn+week-10; wears = 1;
            toll(0, 0) = 0
            toll(0, 5) = 0
            toll(0, 6) = 1
            toll(0, 99) = 94
            toll(0, 100) = -1
            toll(0, -1) = -1
            toll(1, 0) = -1
            toll(-1, 0) = -1
            sew(0, 20) = 20
            toll(0, 0) = 15
            toll(0, 99) = 99
            weeks(2) = 2
            toll(0, 0) = 15
            cut(0) = 23
            toll(0, 9) = 1
            """);
    }

    private static void sewAsFarAsThreadGoes() {
        String sentence = "(each at its COSTS, one after the other; as far as THREAD goes and 99 at most)";
        SCRIPT.says(9, sentence, TWO + """
            costs = 3; thread 9;
            sew(0, 2) = 2
            count(5) = 3
            sew(0, 2) = 1
            count(5) = 0
            seam(0, 3) = 8
            sew(0, 1) = -2
            count(9) = 2
            """);
        SCRIPT.says(9, sentence, TWO + """
            costs = 3; thread 8;
            sew(0, 99) = 2
            count(5) = 2
            sew(0, 99) = -2
            count(5) = 2
            seam(0, 3) = 7
            """);
        SCRIPT.says(9, "SEWN by n stitches (1 .. 99): how many are made; -2, and nothing happens: none can be; NONE: no such ones.", TWO + """
            thread 3;
            sew(0, 3) = 3
            count(5) = 0
            sew(0, 1) = -2
            sew(0, 0) = -1
            sew(0, 100) = -1
            sew(1, 1) = -1
            sew(-1, 1) = -1
            undo() = 1
            sew(0, 4) = 3
            """);
        SCRIPT.says(9, sentence, TWO + """
            costs = 0; thread 0;
            sew(0, 1) = 1
            seam(0, 3) = 6
            count(5) = 0
            """);
        SCRIPT.says(9, sentence, TWO + """
            costs = 99; thread 98;
            sew(0, 1) = -2
            seam(0, 3) = 5
            """);
        SCRIPT.says(9, sentence, TWO + """
            costs = 99; thread 99;
            sew(0, 1) = 1
            count(5) = 0
            """);
    }

    private static void sewNinetyNineAtMost() {
        SCRIPT.says(9, "as far as THREAD goes and 99 at most", """
            text town a; town b; seam a b 7 97; thread 9999;
            sew(0, 1) = 1
            sew(0, 99) = 1
            seam(0, 3) = 99
            count(5) = 9997
            sew(0, 1) = -2
            sew(0, 99) = -2
            count(5) = 9997
            unpick(0, 1) = 9998
            sew(0, 99) = 1
            text town a; town b; seam a b 7 0; thread 9999;
            sew(0, 99) = 99
            seam(0, 3) = 99
            text town a; town b; seam a b 7 99;
            sew(0, 1) = -2
            """);
    }

    private static void sewEachAtItsCosts() {
        // 10 for the first; then 1, 2, 3; a stitch that is dearer than what is left ends it, though a later one were cheaper.
        SCRIPT.says(9, "(each at its COSTS, one after the other", """
            text town a; town b; seam a b 7 0; costs = new*10+sewn; thread 16;
            sew(0, 9) = 4
            count(5) = 0
            text town a; town b; seam a b 7 0; costs = new*10+sewn; thread 15;
            sew(0, 9) = 3
            count(5) = 2
            text town a; town b; seam a b 7 0; costs = if sewn < 2 then 1 else if sewn < 3 then 50 else 0; thread 20;
            sew(0, 9) = 2
            count(5) = 18
            sew(0, 9) = -2
            text town a; town b; seam a b 7 0; costs = 50*(1-week); thread 49; wears = 0;
            sew(0, 9) = -2
            weeks(1) = 1
            sew(0, 9) = 9
            count(5) = 49
            """);
    }

    private static void cut() {
        SCRIPT.says(10, "CUT: how well it was sewn; -2, and nothing happens: 0; NONE: no such SEAM.", """
            text town a; town b; town c; seam a b 7 1; seam b c 7 99; seam a c 7 0;
            cut(2) = -2
            count(9) = 0
            cut(0) = 1
            cut(0) = -2
            cut(1) = 99
            cut(3) = -1
            cut(-1) = -1
            count(5) = 100
            count(9) = 2
            count(6) = 0
            """);
    }

    private static void unpick() {
        SCRIPT.says(11, "UNPICKED by n (as many less, 0 at least; each gives 1 THREAD back, 9999 at most)", """
            text town a; town b; seam a b 7 5; costs = 9;
            unpick(0, 1) = 101
            seam(0, 3) = 4
            unpick(0, 4) = 105
            seam(0, 3) = 0
            text town a; town b; seam a b 7 5;
            unpick(0, 6) = 105
            seam(0, 3) = 0
            text town a; town b; seam a b 7 99; thread 0;
            unpick(0, 99) = 99
            seam(0, 3) = 0
            text town a; town b; seam a b 7 5; thread 9998;
            unpick(0, 1) = 9999
            unpick(0, 1) = 9999
            seam(0, 3) = 3
            unpick(0, 99) = 9999
            seam(0, 3) = 0
            undo() = 1
            undo() = 1
            undo() = 1
            count(5) = 9998
            unpick(0, 2) = 9999
            count(5) = 9999
            seam(0, 3) = 3
            """);
        SCRIPT.says(11, "UNPICKED by n (1 .. 99): THREAD then; -2, and nothing happens: sewn 0; NONE: no such ones.", """
            text town a; town b; town c; seam a b 7 5; seam b c 7 0;
            unpick(1, 1) = -2
            unpick(1, 99) = -2
            unpick(1, 0) = -1
            unpick(1, 100) = -1
            unpick(2, 1) = -1
            unpick(-1, 1) = -1
            count(5) = 100
            count(9) = 0
            unpick(0, 99) = 105
            unpick(0, 1) = -2
            count(9) = 1
            """);
    }

    private static void send() {
        SCRIPT.says(12, "a CART at home, or there, is SENT from where it began", """
            text town a; town b; town c; seam a b 7 50; seam b c 7 50; cart x b c 3; wears = 0;
            send(0) = 1
            cart(0, 3) = 1
            weeks(1) = 1
            cart(0, 3) = 2
            send(0) = 1
            cart(0, 3) = 1
            cart(0, 4) = 1
            cut(1) = 50
            weeks(1) = 2
            cart(0, 3) = 1
            cart(0, 7) = 1
            """);
        SCRIPT.says(12, "SENT: true; false, and nothing happens: it is on the road, no such CART.", """
            text town a; town b; town c; seam a b 7 50; seam b c 7 50; cart x a c 3;
            send(1) = 0
            send(-1) = 0
            count(9) = 0
            send(0) = 1
            send(0) = 0
            weeks(1) = 1
            send(0) = 0
            cart(0, 3) = 1
            count(9) = 2
            weeks(1) = 2
            send(0) = 1
            cart(0, 3) = 0
            """);
    }

    private static void weeks() {
        SCRIPT.says(13, "n WEEKS (0 .. 60; 0 is no thing done) go by: which it is; NONE, and nothing happens: no such n.", """
            text town a; town b; seam a b 7 99;
            weeks(0) = 0
            count(9) = 0
            weeks(1) = 1
            count(9) = 1
            weeks(0) = 1
            count(9) = 1
            seam(0, 3) = 98
            weeks(60) = 61
            count(9) = 2
            seam(0, 3) = 38
            weeks(61) = -1
            weeks(-1) = -1
            count(4) = 61
            count(9) = 2
            undo() = 1
            count(4) = 1
            seam(0, 3) = 98
            """);
    }

    private static void undo() {
        SCRIPT.says(14, "The last thing done (sew, cut, unpick, send, weeks) is undone: true; false: there is none (the last 40 can be).", TWO + """

            undo() = 0
            hold(0) = 1
            tell(0, 1, 5) = 0
            forget() = 1
            feed town x;
            back(1) = 6
            undo() = 0
            count(8) = 6
            sew(0, 1) = 1
            undo() = 1
            seam(0, 3) = 5
            count(5) = 100
            cut(0) = 5
            undo() = 1
            seam(0, 3) = 5
            unpick(0, 2) = 102
            undo() = 1
            seam(0, 3) = 5
            count(5) = 100
            send(0) = 1
            undo() = 1
            count(7) = 0
            weeks(3) = 3
            undo() = 1
            count(4) = 0
            seam(0, 3) = 5
            undo() = 0
            tell(0, 1, 5) = 0
            weeks(1) = 1
            tell(0, 1, 6) = 1
            undo() = 1
            count(10) = 2
            undo() = 0
            """);
        // All that is known of each CART is as it was, the last one's too.
        SCRIPT.says(14, "The last thing done (sew, cut, unpick, send, weeks) is undone: true", FOUR_CARTS + """
            hold(1) = 1
            weeks(1) = 3
            cart(3, 3) = 0
            cart(3, 5) = 20
            cart(3, 7) = 1
            cart(2, 6) = 3
            undo() = 1
            """ + FOUR_CARTS_SENT + """
            undo() = 1
            cart(3, 3) = 3
            cart(3, 4) = 1
            cart(3, 5) = 0
            cart(2, 6) = 0
            undo() = 1
            cart(3, 4) = 0
            """);
        SCRIPT.says(35, "It goes on from what a SLOT holds", FOUR_CARTS + """
            hold(1) = 1
            weeks(9) = 11
            restore(1) = 1
            """ + FOUR_CARTS_SENT + """
            weeks(1) = 3
            cart(3, 3) = 0
            """);
        // Undone things stay undone: there is no way back to them, and what is done then can be undone.
        SCRIPT.says(14, "The last thing done (sew, cut, unpick, send, weeks) is undone: true", TWO + """

            sew(0, 1) = 1
            sew(0, 2) = 2
            undo() = 1
            weeks(1) = 1
            undo() = 1
            seam(0, 3) = 6
            undo() = 1
            seam(0, 3) = 5
            undo() = 0
            """);
    }

    private static void lastForty() {
        SCRIPT.quoted("false: there is none (the last 40 can be).");
        for (int done : new int[] {1, 39, 40, 41, 80, 81, 95}) {
            SewnRoads x = Check.roads("town a; town b; seam a b 7 0; thread 9999;");
            for (int i = 0; i < done; i++) {
                x.sew(0, 1);
            }
            int can = Math.min(done, 40);
            CHECK.due(done + " things done: count(9)", x.count(9), can);
            for (int i = 1; i <= can; i++) {
                CHECK.due(done + " things done: undo() " + i, x.undo(), true);
                CHECK.due(done + " things done: sewn", x.seam(0, 3), done - i);
                CHECK.due(done + " things done: count(9)", x.count(9), can - i);
            }
            CHECK.due(done + " things done: one undo() more", x.undo(), false);
            CHECK.due(done + " things done: sewn", x.seam(0, 3), done - can);
            CHECK.due(done + " things done: thread", x.count(5), 9999 - (done - can));
            x.sew(0, 2);
            CHECK.due(done + " things done, and one more: undo()", x.undo(), true);
            CHECK.due(done + " things done, and one more: undo()", x.undo(), false);
        }
    }

    private static void hold() {
        SCRIPT.says(34, "All that goes on (not what is TOLD, nor the tape) is held in a SLOT (0 .. 2): true; false: no such one.", TWO + """
            wears = 0;
            hold(-1) = 0
            hold(3) = 0
            count(11) = 0
            send(0) = 1
            sew(0, 4) = 4
            weeks(2) = 2
            hold(0) = 1
            count(11) = 1
            count(9) = 3
            undo() = 1
            hold(2) = 1
            count(11) = 2
            undo() = 1
            hold(1) = 1
            count(11) = 3
            hold(1) = 1
            count(11) = 3
            tell(0, 1, 5) = 0
            feed town
            restore(0) = 1
            count(4) = 2
            count(5) = 96
            seam(0, 3) = 9
            cart(0, 3) = 1
            cart(0, 5) = 7
            cart(0, 7) = 1
            count(8) = 4
            count(10) = 1
            forget() = 1
            back(4) = 0
            restore(2) = 1
            count(4) = 0
            seam(0, 3) = 9
            cart(0, 3) = 0
            cart(0, 4) = 1
            count(8) = 0
            count(10) = 0
            restore(1) = 1
            seam(0, 3) = 5
            cart(0, 4) = 1
            count(5) = 100
            """);
    }

    private static void restore() {
        SCRIPT.says(35, "It goes on from what a SLOT holds (that stays there; nothing can be undone then): true; false, and nothing happens: "
            + "no such one, nothing is held.", TWO + """

            restore(0) = 0
            restore(1) = 0
            restore(2) = 0
            restore(-1) = 0
            restore(3) = 0
            sew(0, 1) = 1
            hold(2) = 1
            restore(0) = 0
            restore(1) = 0
            count(9) = 1
            cut(0) = 6
            count(9) = 2
            restore(2) = 1
            seam(0, 3) = 6
            count(9) = 0
            undo() = 0
            cut(0) = 6
            weeks(60) = 60
            restore(2) = 1
            count(4) = 0
            seam(0, 3) = 6
            count(11) = 1
            weeks(1) = 1
            undo() = 1
            count(4) = 0
            undo() = 0
            """);
    }

    private static void count() {
        SCRIPT.says(36, "4 the week, 5 THREAD, 6 WHOLE SEAMS (bits), 7 CARTS on the road (bits), 8 bytes on the tape, 9 things that can be undone, "
            + "10 TOLD ones, 11 SLOTS that hold something", """
            text town a; town b; town c; town d; town e; town f; town g; seam a b 1 1; seam b c 1 1; seam c d 1 1; seam d e 1 1; seam e f 1 1; \
            seam f g 1 1; seam g a 1 1; seam a c 1 1; seam a d 1 1; seam a e 1 1; cart h a b 1; cart i a b 1; cart j a b 1; cart k a b 1;
            count(6) = 1023
            count(14) = 10
            cut(9) = 1
            count(6) = 511
            count(14) = 9
            times 9 cut(0)
            cut(1) = 1
            count(6) = 508
            send(3) = 1
            count(7) = 8
            send(0) = 1
            count(7) = 9
            weeks(1) = 1
            count(6) = 0
            count(14) = 0
            times 20 tell(0, 1, 1)
            count(10) = 20
            times 50 weeks(1)
            count(9) = 40
            count(4) = 51
            times 100 feed(0, 0, 0, 0, 0)
            count(8) = 2000
            hold(0) = 1
            hold(1) = 1
            hold(2) = 1
            count(11) = 3
            """);
        SCRIPT.says(36, "12: 1 a FROST in this week, else 0, 13 stitches that all WOMEN make in a week, 14 how well all SEAMS are sewn, together. "
            + "NONE for others.", """
            text woman a 99; woman b 99; woman c 99; town d; town e; town f; seam d e 1 99; seam e f 1 99; seam d f 1 99; frost 100;
            count(12) = 1
            count(13) = 297
            count(14) = 297
            count(15) = -1
            count(-1) = -1
            count(2147483647) = -1
            count(-2147483648) = -1
            """);
    }
}
