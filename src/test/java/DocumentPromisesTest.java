/** The document once more, from promise 1 to promise 36. */
public final class DocumentPromisesTest {
    private static final Check CHECK = new Check("DocumentPromisesTest");
    private static final Document DOC = new Document(CHECK, "## Promise 1:", "## Not promised");
    // A line a - b - c with a dearer seam across, d alone.
    private static final String LINE = "text town a; town b; town c; town d; seam a b 4 3; seam b c 5 6; seam c a 20 2; seam c d 7 0; ";

    public static void main(String[] args) {
        texts();
        whatThereIs();
        byHand();
        weeksAndUndo();
        joined();
        hangsAndSewing();
        whileRoadsPart();
        rowsToDoubles();
        ahead();
        told();
        slots();
        counts();
        DOC.end();
        CHECK.end();
    }

    private static void texts() {
        DOC.says(1, "No TOWNS, no SEAMS.", """
            count(0) = 0
            count(1) = 0
            count(5) = 100
            joined(0) = -1
            seam(0, 2) = -1
            """);
        // "town", " a; ", "town", " bb ", ";   "
        DOC.says(2, "Twenty bytes, the highest of a first, come behind the tape: how many it has.", """
            feed(1953462126, 543243040, 1953462126, 543318560, 991961120) = 20
            feed(538976288, 538976288, 538976288, 538976288, 538976288) = 40
            count(8) = 40
            read() = 0
            count(0) = 2
            feed(1953462126, 543243040, 1953462126, 543318560, 991961121) = 20
            read() = 1
            place() = 19
            """);
        DOC.says(2, "NONE, and nothing comes, if it would have more than 2,000.", """
            times 100 feed(538976288, 538976288, 538976288, 538976288, 538976288)
            count(8) = 2000
            back(19) = 1981
            feed(0, 0, 0, 0, 0) = -1
            count(8) = 1981
            read() = 0
            """);
        DOC.says(3, "The last n bytes of the tape go: how many it has.", """
            feed town a; town b;
            back(8) = 7
            read() = 0
            count(0) = 1
            feed town a; town b;
            back(0) = 15
            back(15) = 0
            """);
        DOC.says(3, "NONE, and nothing goes, if it has not so many, or n is below 0.", """
            back(1) = -1
            feed town a;
            back(8) = -1
            back(-1) = -1
            count(8) = 7
            """);
        DOC.says(4, "The tape, which is empty then, is read: 0, or the number of its FAULT.", """
            feed town a;
            read() = 0
            count(8) = 0
            feed town a
            read() = 1
            count(8) = 0
            feed woman a 1; woman b 1; woman c 1; woman d 1;
            read() = 2
            count(8) = 0
            feed town a; town a;
            read() = 3
            feed seam a b 1 1;
            read() = 4
            feed woman w 0;
            read() = 5
            count(0) = 1
            read() = 0
            count(0) = 0
            """);
        DOC.says(5, "The byte of the latest read()'s FAULT; NONE without.", """
            place() = -1
            feed town a; town a;
            read() = 3
            place() = 13
            feed !
            place() = 13
            read() = 1
            place() = 0
            feed town a;
            place() = 0
            read() = 0
            place() = -1
            """);
    }

    private static void whatThereIs() {
        DOC.says(6, "Of a SEAM: what 0, 1 its TOWNS (the one told first is first), 2 LENGTH, 3 how well it is sewn, 4 COSTS now, 5 WEARS now "
            + "(no FROST, nothing carted), 6 its WAY now.", LINE + """
            frost 100; cart k a b 9; costs = 3 + new + week; wears = 1 + frosty * 7 + carted + week; puckers = sewn + week;
            seam(2, 0) = 2
            seam(2, 1) = 0
            seam(2, 2) = 20
            seam(2, 3) = 2
            seam(2, 4) = 3
            seam(3, 4) = 4
            seam(1, 5) = 1
            seam(2, 6) = 18
            send(0) = 1
            seam(0, 5) = 1
            weeks(1) = 1
            seam(1, 3) = 0
            seam(1, 4) = 5
            seam(1, 5) = 2
            seam(2, 6) = 19
            """);
        DOC.says(6, "NONE for others.", LINE + """

            seam(3, 6) = 7
            seam(3, 7) = -1
            seam(3, -1) = -1
            seam(4, 0) = -1
            seam(-1, 0) = -1
            """);
        DOC.says(7, "Of a CART: what 0 from which TOWN, 1 to which, 2 LOAD, 3 at which it is, 4: 1 on the road, else 0, 5 what it has paid so far, "
            + "6 weeks in which it was STRANDED so far, 7 how often it came there.", LINE + """
            cart k c a 9; cart l b d 8; wears = 0; toll = load + length;
            cart(0, 0) = 2
            cart(0, 1) = 0
            cart(0, 2) = 9
            cart(0, 3) = 2
            cart(0, 4) = 0
            cart(0, 5) = 0
            send(0) = 1
            send(1) = 1
            cart(0, 4) = 1
            weeks(1) = 1
            cart(0, 3) = 1
            cart(0, 5) = 14
            cart(0, 6) = 0
            cart(0, 7) = 0
            cart(1, 3) = 1
            cart(1, 4) = 1
            cart(1, 6) = 1
            weeks(1) = 2
            cart(0, 3) = 0
            cart(0, 4) = 0
            cart(0, 5) = 27
            cart(0, 7) = 1
            cart(1, 6) = 2
            send(0) = 1
            weeks(9) = 11
            cart(0, 5) = 54
            cart(0, 7) = 2
            cart(1, 6) = 11
            cart(1, 5) = 0
            """);
        DOC.says(7, "NONE for others.", LINE + """
            cart k c a 9;
            cart(0, 7) = 0
            cart(0, 8) = -1
            cart(0, -1) = -1
            cart(1, 0) = -1
            cart(-1, 0) = -1
            """);
        DOC.says(8, "TOLL of a SEAM for a LOAD (0 .. 99) now; NONE: no such ones.", LINE + """
            toll = load / 2 + sewn + week + which;
            toll(0, 0) = 3
            toll(1, 99) = 56
            weeks(1) = 1
            toll(1, 99) = 56
            toll(0, 10) = 8
            toll(3, 0) = 4
            toll(0, 100) = -1
            toll(0, -1) = -1
            toll(4, 0) = -1
            toll(-1, 0) = -1
            """);
    }

    private static void byHand() {
        DOC.says(9, "SEWN by n stitches (1 .. 99): how many are made; -2, and nothing happens: none can be; NONE: no such ones.", LINE + """
            costs = 2 + new; thread 10;
            sew(3, 99) = 4
            seam(3, 3) = 4
            count(5) = 1
            sew(3, 1) = -2
            count(9) = 1
            sew(3, 0) = -1
            sew(3, 100) = -1
            sew(4, 1) = -1
            sew(-1, 1) = -1
            count(9) = 1
            text town a; town b; seam a b 4 98;
            sew(0, 1) = 1
            sew(0, 1) = -2
            count(5) = 99
            """);
        DOC.says(10, "CUT: how well it was sewn; -2, and nothing happens: 0; NONE: no such SEAM.", LINE + """

            cut(1) = 6
            seam(1, 3) = 0
            cut(1) = -2
            cut(3) = -2
            cut(4) = -1
            cut(-1) = -1
            count(9) = 1
            """);
        DOC.says(11, "UNPICKED by n (1 .. 99): THREAD then; -2, and nothing happens: sewn 0; NONE: no such ones.", LINE + """

            unpick(1, 2) = 102
            seam(1, 3) = 4
            unpick(1, 99) = 106
            unpick(1, 1) = -2
            unpick(0, 0) = -1
            unpick(0, 100) = -1
            unpick(4, 1) = -1
            unpick(-1, 1) = -1
            count(9) = 2
            """);
        DOC.says(12, "SENT: true; false, and nothing happens: it is on the road, no such CART.", LINE + """
            cart k c a 9; cart l b d 8;
            send(1) = 1
            send(1) = 0
            count(7) = 2
            send(2) = 0
            send(-1) = 0
            count(9) = 1
            send(0) = 1
            count(7) = 3
            """);
    }

    private static void weeksAndUndo() {
        DOC.says(13, "n WEEKS (0 .. 60; 0 is no thing done) go by: which it is; NONE, and nothing happens: no such n.", LINE + """

            weeks(0) = 0
            count(9) = 0
            weeks(2) = 2
            seam(1, 3) = 4
            weeks(0) = 2
            count(9) = 1
            weeks(-1) = -1
            weeks(61) = -1
            seam(1, 3) = 4
            count(9) = 1
            weeks(60) = 62
            seam(1, 3) = 0
            """);
        DOC.says(14, "The last thing done (sew, cut, unpick, send, weeks) is undone: true; false: there is none (the last 40 can be).", LINE + """
            cart k c a 9;
            undo() = 0
            sew(3, 5) = 5
            cut(0) = 3
            unpick(1, 2) = 97
            send(0) = 1
            weeks(1) = 1
            undo() = 1
            count(4) = 0
            seam(1, 3) = 4
            cart(0, 3) = 2
            cart(0, 4) = 1
            undo() = 1
            cart(0, 4) = 0
            undo() = 1
            seam(1, 3) = 6
            count(5) = 95
            undo() = 1
            seam(0, 3) = 3
            undo() = 1
            seam(3, 3) = 0
            count(5) = 100
            undo() = 0
            times 41 weeks(1)
            count(9) = 40
            times 40 undo()
            undo() = 0
            count(4) = 1
            """);
    }

    private static void joined() {
        DOC.says(15, "FAR (0 to itself); -2: not joined; NONE: no such ones.", LINE + """

            far(0, 2) = 9
            far(2, 0) = 9
            far(3, 3) = 0
            far(0, 3) = -2
            far(0, 4) = -1
            far(4, 0) = -1
            far(0, -1) = -1
            far(-1, -1) = -1
            """);
        DOC.says(16, "The fewest WHOLE SEAMS from a TOWN to a TOWN; -2: not joined; NONE: no such ones.", LINE + """

            hops(0, 2) = 1
            hops(3, 3) = 0
            hops(0, 3) = -2
            cut(2) = 2
            hops(0, 2) = 2
            sew(3, 1) = 1
            hops(0, 3) = 3
            hops(0, 4) = -1
            hops(-1, 0) = -1
            """);
        DOC.says(17, "TOWNS joined to a TOWN by WHOLE SEAMS, itself too (bits); NONE: no such one.", LINE + """

            joined(0) = 7
            joined(2) = 7
            joined(3) = 8
            joined(4) = -1
            joined(-1) = -1
            cut(0) = 3
            cut(2) = 2
            joined(0) = 1
            joined(1) = 6
            """);
    }

    private static void hangsAndSewing() {
        DOC.says(18, "HANGS (bits).", LINE + """

            hangs() = 0
            sew(3, 1) = 1
            hangs() = 8
            cut(1) = 6
            hangs() = 13
            """);
        DOC.says(19, "How much THREAD it takes to have a SEAM sewn s (1 .. 99); NONE: no such ones.", LINE + """
            costs = sewn + new * 5; thread 0;
            takes(0, 3) = 0
            takes(0, 1) = 0
            takes(0, 4) = 3
            takes(0, 6) = 12
            takes(3, 1) = 5
            takes(3, 3) = 8
            takes(3, 99) = 4856
            takes(0, 0) = -1
            takes(0, 100) = -1
            takes(4, 1) = -1
            takes(-1, 1) = -1
            """);
        DOC.says(20, "SEWING (bits of TOWNS): what 0 THREAD, 1 which SEAMS (bits); -2: by none; NONE: no such ones.", LINE + """
            town e; costs = 2; thread 0;
            sewing(9, 3, 0) = 6
            sewing(9, 3, 1) = 11
            sewing(8, 9, 0) = 0
            sewing(8, 9, 1) = 0
            sewing(17, 1, 0) = -2
            sewing(17, 1, 1) = -2
            sewing(32, 1, 0) = -1
            sewing(-1, 1, 0) = -1
            sewing(3, 0, 0) = -1
            sewing(3, 100, 0) = -1
            sewing(3, 1, 2) = -1
            sewing(3, 1, -1) = -1
            """);
        DOC.says(21, "SUREST; -2: not joined; NONE: no such ones, one and the same.", LINE + """

            surest(0, 2) = 3
            surest(1, 2) = 6
            surest(0, 3) = -2
            surest(0, 0) = -1
            surest(0, 4) = -1
            surest(-1, 0) = -1
            """);
    }

    private static void whileRoadsPart() {
        DOC.says(22, "SOON (0 to itself); -2: not; NONE: no such ones.", LINE + """

            soon(3, 3) = 0
            soon(0, 2) = 1
            soon(0, 3) = -2
            cut(2) = 2
            soon(0, 2) = 2
            soon(2, 0) = 2
            sew(3, 2) = 2
            soon(0, 3) = -2
            soon(3, 0) = 3
            soon(0, 4) = -1
            soon(-1, 0) = -1
            """);
        DOC.says(23, "HOLDS (0: not now); -2: for good; NONE: no such ones, one and the same.", LINE + """
            wears = if which < 1 then 0 else if which < 2 then 2 else 1;
            holds(0, 1) = -2
            holds(1, 2) = 3
            holds(0, 2) = 3
            holds(0, 3) = 0
            cut(1) = 6
            holds(0, 2) = 2
            holds(1, 2) = 2
            holds(0, 0) = -1
            holds(0, 4) = -1
            holds(-1, 0) = -1
            """);
    }

    private static void rowsToDoubles() {
        DOC.says(24, "ROWS.", LINE + """

            rows() = 1
            sew(3, 1) = 1
            rows() = 1
            cut(2) = 2
            cut(1) = 6
            rows() = 2
            cut(0) = 3
            cut(3) = 1
            rows() = 0
            """);
        DOC.says(25, "MARCH; -2: there are no SEAMS; NONE: no such n.", LINE + """
            woman w 4;
            march(0) = 0
            march(1) = 3
            march(2) = 4
            march(60) = 62
            march(61) = -1
            march(-1) = -1
            text town a; town b; woman w 4;
            march(0) = -2
            march(61) = -1
            """);
        DOC.says(26, "DOUBLE (s 1 .. 99); -2: none; NONE: no such ones, one and the same TOWN.", LINE + """
            wears = 1 + which;
            doubles(0, 1, 5) = 0
            doubles(0, 1, 99) = 0
            doubles(1, 2, 1) = 1
            doubles(0, 3, 3) = 3
            sew(3, 4) = 4
            doubles(0, 3, 4) = 3
            doubles(0, 1, 0) = -1
            doubles(0, 1, 100) = -1
            doubles(0, 0, 5) = -1
            doubles(0, 4, 5) = -1
            doubles(-1, 0, 5) = -1
            text town a; town b; town c; town d; seam a b 1 5; seam b c 1 5;
            doubles(0, 2, 9) = -2
            doubles(0, 3, 9) = -2
            """);
    }

    private static void ahead() {
        DOC.says(27, "IN n WEEKS how well a SEAM is sewn; NONE: no such ones.", LINE + """

            then(1, 0) = 6
            then(1, 4) = 2
            then(1, 60) = 0
            then(1, 61) = -1
            then(1, -1) = -1
            then(4, 1) = -1
            then(-1, 1) = -1
            """);
        DOC.says(28, "IN n WEEKS of a CART: what 0 at which TOWN it is, 1 what it has paid more, 2 weeks STRANDED more; NONE: no such ones.", LINE + """
            cart k a c 9; cart l a d 1;
            send(0) = 1
            send(1) = 1
            cartIn(0, 1, 0) = 1
            cartIn(0, 1, 1) = 4
            cartIn(0, 2, 0) = 2
            cartIn(0, 2, 1) = 9
            cartIn(0, 2, 2) = 0
            cartIn(1, 5, 2) = 5
            cartIn(1, 5, 1) = 0
            weeks(1) = 1
            cartIn(0, 0, 0) = 1
            cartIn(0, 1, 1) = 5
            cartIn(1, 5, 2) = 5
            cartIn(0, 60, 0) = 2
            cartIn(0, 61, 0) = -1
            cartIn(0, -1, 0) = -1
            cartIn(0, 1, 3) = -1
            cartIn(0, 1, -1) = -1
            cartIn(2, 1, 0) = -1
            cartIn(-1, 1, 0) = -1
            """);
        // By the seeds 0 and 1 the lots of week 0 are both 52.
        DOC.says(29, "YEAR; NONE: no such ones, one and the same TOWN.", LINE + """
            frost 53; wears = frosty * 9;
            year(0, 1, 1, 2) = 0
            year(0, 1, 0, 2) = 2
            year(0, 3, 0, 2) = 0
            year(0, 1, 61, 2) = -1
            year(0, 1, -1, 2) = -1
            year(0, 1, 1, 0) = -1
            year(0, 1, 1, 21) = -1
            year(0, 0, 1, 1) = -1
            year(0, 4, 1, 1) = -1
            year(-1, 0, 1, 1) = -1
            text town a; town b; town c; seam a b 1 3;
            year(0, 1, 2, 20) = 20
            year(0, 1, 3, 20) = 0
            year(0, 2, 0, 20) = 0
            """);
    }

    private static void told() {
        DOC.says(30, "It is TOLD (0 .. 999): its number; NONE, and nothing happens: 20 are there, no such ones, one and the same TOWN.", LINE + """

            tell(0, 2, 0) = 0
            tell(3, 2, 999) = 1
            tell(0, 2, 1000) = -1
            tell(0, 2, -1) = -1
            tell(0, 0, 1) = -1
            tell(0, 4, 1) = -1
            tell(-1, 0, 1) = -1
            count(10) = 2
            times 17 tell(0, 1, 1)
            tell(0, 1, 1) = 19
            tell(0, 1, 1) = -1
            count(10) = 20
            count(9) = 0
            """);
        DOC.says(31, "All that was TOLD is forgotten: how many there were.", LINE + """

            forget() = 0
            tell(0, 2, 20) = 0
            tell(0, 1, 4) = 1
            forget() = 2
            count(10) = 0
            cuts(1, 0) = -1
            tell(0, 2, 20) = 0
            """);
        DOC.says(32, "CUTS, as KNOWN by k: what 0 how many, 1 which (bits); NONE: no such ones.", LINE + """

            tell(0, 2, 20) = 0
            tell(1, 2, 5) = 1
            cuts(0, 0) = 3
            cuts(0, 1) = 7
            cuts(1, 0) = 2
            cuts(1, 1) = 3
            cuts(2, 0) = 1
            cuts(2, 1) = 1
            cuts(3, 0) = -1
            cuts(-1, 0) = -1
            cuts(0, 2) = -1
            cuts(0, -1) = -1
            """);
        DOC.says(33, "ASK, as KNOWN by k: 10 * the lesser TOWN + the other one; -2: no CUTS, no two TOWNS; NONE: no such k.", """
            text town d; town a; town b; town c; seam a b 4 3; seam b c 5 6; seam a c 9 2;
            ask(0) = 12
            tell(1, 2, 4) = 0
            ask(1) = 23
            tell(1, 2, 99) = 1
            ask(2) = -2
            ask(3) = -1
            ask(-1) = -1
            text town a;
            ask(0) = -2
            text town a; town b;
            ask(0) = -2
            """);
    }

    private static void slots() {
        DOC.says(34, "All that goes on (not what is TOLD, nor the tape) is held in a SLOT (0 .. 2): true; false: no such one.", LINE + """
            cart k a c 9;
            send(0) = 1
            weeks(1) = 1
            tell(0, 1, 4) = 0
            feed !
            hold(0) = 1
            hold(2) = 1
            hold(3) = 0
            hold(-1) = 0
            count(11) = 2
            sew(3, 5) = 5
            weeks(4) = 5
            tell(0, 1, 4) = 1
            feed !
            restore(2) = 1
            count(4) = 1
            count(5) = 100
            count(10) = 2
            count(8) = 2
            seam(1, 3) = 5
            seam(3, 3) = 0
            cart(0, 3) = 1
            cart(0, 4) = 1
            cart(0, 5) = 4
            """);
        DOC.says(35, "It goes on from what a SLOT holds (that stays there; nothing can be undone then): true; false, and nothing happens: no such one, nothing is held.",
            LINE + """

            restore(1) = 0
            hold(1) = 1
            cut(1) = 6
            restore(0) = 0
            restore(3) = 0
            restore(-1) = 0
            count(9) = 1
            seam(1, 3) = 0
            restore(1) = 1
            count(9) = 0
            undo() = 0
            seam(1, 3) = 6
            weeks(1) = 1
            restore(1) = 1
            count(4) = 0
            count(11) = 1
            hold(0) = 1
            cut(1) = 6
            restore(0) = 1
            seam(1, 3) = 6
            """);
    }

    private static void counts() {
        // The lots of weeks 0 and 1 are 52 and 79.
        DOC.says(36, "0 TOWNS, 1 SEAMS, 2 WOMEN, 3 CARTS, 4 the week, 5 THREAD, 6 WHOLE SEAMS (bits), 7 CARTS on the road (bits), 8 bytes on the tape, "
            + "9 things that can be undone, 10 TOLD ones, 11 SLOTS that hold something, 12: 1 a FROST in this week, else 0, "
            + "13 stitches that all WOMEN make in a week, 14 how well all SEAMS are sewn, together. NONE for others.", LINE + """
            cart k c a 9; cart l b d 8; cart m d a 1; woman w 4; woman v 9; frost 60; thread 77;
            send(1) = 1
            cut(2) = 2
            tell(0, 1, 4) = 0
            hold(1) = 1
            feed seed
            count(0) = 4
            count(1) = 4
            count(2) = 2
            count(3) = 3
            count(4) = 0
            count(5) = 77
            count(6) = 3
            count(7) = 2
            count(8) = 4
            count(9) = 2
            count(10) = 1
            count(11) = 1
            count(12) = 1
            count(13) = 13
            count(14) = 9
            count(15) = -1
            count(-1) = -1
            weeks(1) = 1
            count(4) = 1
            count(12) = 0
            count(14) = 7
            count(9) = 3
            """);
    }
}
