/** The document once more, from 'Terms' up to II: texts, their tokens, what they tell and their faults. */
public final class DocumentTextTest {
    private static final Check CHECK = new Check("DocumentTextTest");
    private static final Document DOC = new Document(CHECK, "## Terms", "==== II.");
    private static final String ONE = "text town a; town b; seam a b 9 4; ";
    private static final String SEVEN = "town a; town b; town c; town d; town e; town f; town g; ";
    private static final String TEN = "seam a b 1 1; seam a c 1 1; seam a d 1 1; seam a e 1 1; seam a f 1 1; "
        + "seam a g 1 1; seam b c 1 1; seam b d 1 1; seam b e 1 1; seam b f 1 1; ";
    // 399 tokens.
    private static final String SEEDS = "seed 1;".repeat(133);
    private static final String IF = "if 1 < 2 then 3 else ";

    public static void main(String[] args) {
        tokens();
        tells();
        laws();
        whatIsTold();
        whatHoldsIfNotTold();
        hardFaults();
        softFaults();
        inPlace();
        DOC.end();
        CHECK.end();
    }

    private static void tokens() {
        DOC.says(4, "A TEXT has 2,000 bytes at most.", """
            times 99 feed(538976288, 538976288, 538976288, 538976288, 538976288)
            feed(538976288, 538976288, 538976288, 538976288, 538976288) = 2000
            feed(538976288, 538976288, 538976288, 538976288, 538976288) = -1
            read() = 0
            """);
        DOC.says(4, "TOKENS, the longest that can be, with blanks (9, 10, 13, 32) between or not:", """
            text \\ttown\\na;\\rtown b ;seam a b 12 34;thread5;
            seam(0, 2) = 12
            seam(0, 3) = 34
            count(5) = 5
            fault 1 @ @towna;
            fault 1 @ seam a b 1 2 @3;
            fault 1 @ town a;@\\x0btown b;
            fault 1 @ town @\\xa0a;
            """);
        DOC.says(4, "NAMES (letters a .. z, 8 at most, none of the words in quotes),", """
            text town abcdefgh; town z;
            count(0) = 2
            text town way; town wayss; town lengthy; town news;
            count(0) = 4
            fault 1 @ town @abcdefghi;
            fault 1 @ town @ways;
            fault 1 @ town @else;
            fault 1 @ town a@B;
            fault 1 @ town a@1;
            fault 1 @ town @Ab;
            fault 1 @ town @1a;
            """);
        DOC.says(4, "INTS (1 to 4 digits),", """
            text thread 3;
            count(5) = 3
            text thread 0345;
            count(5) = 345
            fault 1 @ thread @00345;
            fault 1 @ thread @-5;
            """);
        DOC.says(4, "SIGNS ; = + - * / < ( ) .", ONE + """
            costs = if (1)<2 then 8 / 2 * 3 - 4 + 5 else 0;
            seam(0, 4) = 13
            fault 1 @ costs = 1 @> 2;
            fault 1 @ costs = 1 @, 2;
            fault 1 @ costs = @[2];
            fault 1 @ costs = 1@.;
            """);
        DOC.says(4, "A longer one, all else, is no TOKEN.", """
            fault 1 @ town a;@towntownt b;
            fault 1 @ seed @12345;
            fault 1 @ @\\x00
            fault 1 @ \\n\\r@\\xff
            fault 1 @ @TOWN a;
            """);
    }

    private static void tells() {
        DOC.says(4, "text: {TELL}.", """
            fault 0 -1
            count(0) = 0
            text town a; town b;
            count(0) = 2
            fault 1 @ @;
            fault 1 @ town a;@;
            fault 1 @ @a;
            """);
        DOC.says(4, "TELL: 'town' NAME ';'", """
            text town a;
            count(0) = 1
            fault 1 @ town a@
            fault 1 @ town @;
            fault 1 @ town @1;
            fault 1 @ town a @b;
            """);
        DOC.says(4, "| 'seam' NAME NAME INT INT ';'", """
            text town a; town b; seam a b 3 4;
            seam(0, 2) = 3
            seam(0, 3) = 4
            fault 1 @ seam a @3 4;
            fault 1 @ seam a b @c 3 4;
            fault 1 @ seam a b 3@;
            fault 1 @ seam a b 3 4@
            """);
        DOC.says(4, "| 'woman' NAME INT ';'", """
            text woman w 5;
            count(2) = 1
            count(13) = 5
            fault 1 @ woman @5;
            fault 1 @ woman w@;
            fault 1 @ woman w @v 5;
            """);
        DOC.says(4, "| 'cart' NAME NAME NAME INT ';'", """
            text town a; town b; cart c a b 6;
            cart(0, 0) = 0
            cart(0, 1) = 1
            cart(0, 2) = 6
            fault 1 @ cart c a @6;
            fault 1 @ cart c a b@;
            fault 1 @ cart c a b 6 @7;
            """);
        DOC.says(4, "| ('costs' | 'wears' | 'puckers' | 'toll') LAW ';'", ONE + """
            costs = 2; wears = 3; puckers = 4; toll = 7;
            seam(0, 4) = 2
            seam(0, 5) = 3
            seam(0, 6) = 5
            toll(0, 0) = 7
            fault 1 @ @cost = 2;
            fault 1 @ @new = 2;
            fault 1 @ costs = 2@
            """);
        DOC.says(4, "| 'thread' INT ';'", """
            text thread 7;
            count(5) = 7
            fault 1 @ thread @x;
            fault 1 @ thread@;
            """);
        DOC.says(4, "| 'frost' INT ';'", """
            text frost 100;
            count(12) = 1
            text frost 0;
            count(12) = 0
            fault 1 @ frost@;
            fault 1 @ frost 1 @2;
            """);
        // The lots of week 0 by the seeds 9999 and 7 are 13 and 78.
        DOC.says(4, "| 'seed' INT ';'.", """
            text frost 20; seed 9999;
            count(12) = 1
            text frost 20; seed 7;
            count(12) = 0
            fault 1 @ seed@;
            fault 1 @ seed 1@
            """);
    }

    private static void laws() {
        DOC.says(4, "LAW: '=' {'if' E '<' E 'then' E 'else'} E.", ONE + """
            costs = if 1 < 1 then 2 else if 1 < 2 then 3 else 4;
            seam(0, 4) = 3
            fault 1 @ costs @1;
            fault 1 @ costs = if 1 @then 2 else 3;
            fault 1 @ costs = if 1 < 2 @< 3 then 4 else 5;
            fault 1 @ costs = if 1 < 2 then 3@;
            fault 1 @ costs = if 1 < 2 then 3 else@;
            fault 1 @ costs = if 1 < 2 then @if 1 < 2 then 3 else 4 else 5;
            fault 1 @ costs = (@if 1 < 2 then 3 else 4);
            """);
        DOC.says(4, "E: PART {('+' | '-') PART}.", ONE + """
            costs = 9 - 3 + 1 - 2;
            seam(0, 4) = 5
            fault 1 @ costs = @- 1;
            fault 1 @ costs = @+ 1;
            fault 1 @ costs = 1 +@;
            """);
        DOC.says(4, "PART: UNIT {('*' | '/') UNIT}.", ONE + """
            costs = 2 + 3 * 4 - 9 / 2; wears = 7 / 2 * 2; toll = 2 * 7 / 2;
            seam(0, 4) = 10
            seam(0, 5) = 6
            toll(0, 0) = 7
            fault 1 @ costs = @* 1;
            fault 1 @ costs = 1 /@;
            fault 1 @ costs = 1 * @- 1;
            """);
        DOC.says(4, "UNIT: INT | VAR | '(' E ')'.", ONE + """
            costs = (2 + 3) * 4; wears = 9 - (5 - (3 - 1)); toll = length;
            seam(0, 4) = 20
            seam(0, 5) = 6
            toll(0, 0) = 9
            fault 1 @ costs = @x;
            fault 1 @ costs = @);
            fault 1 @ costs = (@);
            fault 1 @ costs = (1@;
            fault 1 @ costs = 1@);
            fault 1 @ costs = 1 @(2);
            """);
        DOC.says(4, "VAR: 'length' | 'sewn' | 'week' | 'frosty' | 'carted' | 'which' | 'load' | 'new' | 'ways'.", ONE + """
            costs = length + sewn * 10 + week + frosty + carted + which + load + new + ways;
            seam(0, 4) = 50
            fault 1 @ costs = @seed;
            fault 1 @ costs = @thread;
            fault 1 @ costs = @lengths;
            """);
    }

    private static void whatIsTold() {
        DOC.says(36, "TOWNS, 7 at most (a NAME),", "text " + SEVEN + "\ncount(0) = 7\nfault 2 @ " + SEVEN + "@town h;");
        DOC.says(6, "SEAMS, 10 at most (two TOWNS, either way, LENGTH 1 .. 99, how well it is SEWN 0 .. 99),",
            "text " + SEVEN + TEN + "\ncount(1) = 10\nfault 2 @ " + SEVEN + TEN + "@seam b g 1 1;" + """

            text town a; town b; town c; seam b a 1 0; seam c b 99 99;
            seam(0, 2) = 1
            seam(0, 3) = 0
            seam(1, 2) = 99
            seam(1, 3) = 99
            hops(1, 2) = 1
            hops(2, 1) = 1
            fault 5 @ town a; town b; seam a b @0 5;
            fault 5 @ town a; town b; seam a b @100 5;
            fault 5 @ town a; town b; seam a b 5 @100;
            """);
        DOC.says(36, "WOMEN, 3 at most (a NAME, how many stitches she makes in a week 1 .. 99),", """
            text woman u 1; woman v 99; woman w 7;
            count(2) = 3
            count(13) = 107
            fault 2 @ woman u 1; woman v 9; woman w 7; @woman x 1;
            fault 5 @ woman u @0;
            fault 5 @ woman u @100;
            """);
        DOC.says(7, "CARTS, 4 at most (a NAME, from which TOWN to which, LOAD 0 .. 99),", """
            text town a; town b; cart p a b 0; cart q b a 99; cart r a b 1; cart s a b 1;
            count(3) = 4
            cart(0, 0) = 0
            cart(0, 1) = 1
            cart(0, 2) = 0
            cart(1, 0) = 1
            cart(1, 1) = 0
            cart(1, 2) = 99
            fault 2 @ town a; town b; cart p a b 1; cart q a b 1; cart r a b 1; cart s a b 1; @cart t a b 1;
            fault 5 @ town a; town b; cart p a b @100;
            """);
        DOC.says(6, "numbered each from 0 on as they stand.", """
            text town z; town y; seam z y 3 1; town x; cart q y x 5; seam x y 4 2; cart p x z 6;
            seam(0, 0) = 0
            seam(0, 1) = 1
            seam(0, 2) = 3
            seam(1, 0) = 2
            seam(1, 1) = 1
            seam(1, 2) = 4
            cart(0, 0) = 1
            cart(0, 1) = 2
            cart(1, 0) = 2
            cart(1, 1) = 0
            """);
    }

    private static void whatHoldsIfNotTold() {
        DOC.says(6, "LAWS: COSTS (1), WEARS (1), PUCKERS (0), TOLL (length), if not told; the last one.", ONE + """

            seam(0, 4) = 1
            seam(0, 5) = 1
            seam(0, 6) = 9
            toll(0, 50) = 9
            text town a; town b; seam a b 9 4; costs = 4; toll = 1; wears = 5; costs = 6; puckers = 2; toll = 2; puckers = 3;
            seam(0, 4) = 6
            seam(0, 5) = 5
            seam(0, 6) = 6
            toll(0, 50) = 2
            """);
        // The lots of week 0 by the seeds 0 and 9999 are 52 and 13.
        DOC.says(36, "THREAD 0 .. 9999 (100), FROST: in how many of 100 weeks 0 .. 100 (0), SEED 0 .. 9999 (0): the last one.", """
            fault 0 -1
            count(5) = 100
            text thread 5; thread 9999; thread 0;
            count(5) = 0
            text thread 0; thread 9999;
            count(5) = 9999
            text frost 100; frost 0;
            count(12) = 0
            text frost 0; frost 100;
            count(12) = 1
            text frost 53;
            count(12) = 1
            text frost 52;
            count(12) = 0
            text seed 9999; frost 52; seed 0;
            count(12) = 0
            text seed 0; frost 14; seed 9999;
            count(12) = 1
            fault 5 @ frost @101;
            fault 5 @ frost @101; frost 5;
            """);
    }

    private static void hardFaults() {
        DOC.says(4, "FAULTS of a text, the first by its place (a byte; the text's end: its length), of one place the least:", """
            fault 1 @ town a; town@
            fault 1 @ town a; town \\n@
            fault 2 @ woman u 1; woman v 1; woman w 1; @woman x 1; !
            fault 1 @ woman u 1; woman v 1; woman w 1; @! woman x 1;
            fault 3 @ town a; town @a; seam x y 0 0;
            fault 4 @ seam @x x 0 100;
            fault 5 @ woman a @0; town a;
            """ + "fault 2 @ " + SEEDS + "seed @1;\nfault 1 @ " + SEEDS + "seed @;\nfault 1 @ " + SEEDS + "seed @!");
        DOC.says(4, "1 SYNTAX: a TOKEN, or what is none, with which no text goes on.", """
            fault 1 @ town a; town a @!
            fault 1 @ town a; town a @woman
            fault 1 @ town a @town b;
            fault 1 @ town a; @5
            fault 1 @ costs = 1 + 2 @costs = 3;
            """);
        DOC.says(4, "2 ROOM: a 401st TOKEN;", "text " + SEEDS + "\nfault 2 @ " + SEEDS + "seed @1;\nfault 2 @ " + SEEDS + "seed @1 1;");
        // A law of 388 tokens behind the twelve of ONE, and one token more.
        DOC.again(4, "a 401st TOKEN", ONE + "costs = 3" + " + 0".repeat(191) + " + 5 ;\nseam(0, 4) = 8");
        DOC.again(4, "a 401st TOKEN", "fault 2 @ town a; town b; seam a b 9 4; costs = 3" + " + 0".repeat(191) + " + 5 * @1;");
        DOC.again(4, "a 401st TOKEN", "text costs = 3" + " - 0".repeat(198) + ";");
        DOC.says(4, "one more of a sort than told (at its first TOKEN);", "fault 2 @ " + SEVEN + "@town a;\nfault 2 @ " + SEVEN + "@town 5\n"
            + "fault 2 @ " + SEVEN + TEN + "@seam b g 100 100;");
        DOC.says(4, "a 5th if of a LAW (at it);", "text costs = " + IF.repeat(4) + "4; wears = " + IF.repeat(4) + "4;\nfault 2 @ costs = "
            + IF.repeat(4) + "@" + IF + "4;");
        DOC.says(4, "a 7th ( within one another (at it).", """
            text costs = ((((((1)))))) + ((((((2)))))) * (3);
            fault 2 @ costs = ((((((@(1)))))));
            fault 2 @ costs = 1 * (2 + (((((3 - @(1)))))));
            fault 2 @ wears = if 1 < ((((((@(2))))))) then 3 else 4;
            text toll = if ((((((1)))))) < ((((((2)))))) then ((((((3)))))) else ((((((4))))));
            """);
    }

    private static void softFaults() {
        DOC.says(4, "If there is none, likewise:", """
            fault 1 @ town a; town a; seam x y 0 0; @then
            fault 2 @ woman a 0; woman a 0; woman a 0; @woman b 1;
            fault 3 @ woman a 5; woman @a 0;
            fault 5 @ woman a @0; woman a 5;
            fault 4 @ town a; seam a @b 0 100;
            """);
        DOC.says(4, "3 TWICE: a NAME told already (all together);", """
            fault 3 @ town a; town @a;
            fault 3 @ town a; woman @a 5;
            fault 3 @ woman a 5; town b; town @a;
            fault 3 @ town a; town b; cart @b a b 5;
            fault 3 @ town a; town b; cart c a b 5; cart @c a b 5;
            fault 3 @ town a; town b; cart c a b 5; woman @c 5;
            text town a; town b; woman c 5; cart d a b 5; seam a b 1 1;
            """);
        DOC.says(4, "(at the second NAME) a SEAM of a TOWN with itself, or that there is between the two already;", """
            fault 3 @ town a; seam a @a 1 1;
            fault 3 @ town a; town b; seam a b 1 1; seam a @b 2 2;
            fault 3 @ town a; town b; seam a b 1 1; seam b @a 2 2;
            text town a; town b; town c; seam a b 1 1; seam b c 1 1; seam a c 1 1;
            """);
        DOC.says(4, "a CART from a TOWN to itself.", """
            fault 3 @ town a; town b; cart c b @b 1;
            text town a; town b; cart c a b 1; cart d a b 1; cart e b a 1;
            """);
        DOC.says(4, "4 NAME: (at it) no such TOWN told ahead (a NAME told more than once is that of the first one).", """
            fault 4 @ town a; seam @b a 1 1; town b;
            fault 4 @ town a; seam a @b 1 1; town b;
            fault 4 @ town a; woman w 1; seam a @w 1 1;
            fault 4 @ town a; cart c @c a 1;
            fault 4 @ town a; cart c a @d 1;
            fault 4 @ town a; cart c @x x 1;
            fault 3 @ woman w 1; town a; town @w; seam a w 1 1;
            """);
        DOC.says(4, "5 WRONG (at the INT): a number not as told above.", """
            fault 5 @ town a; town b; seam a b @0 100;
            fault 5 @ town a; town b; seam a b 99 @100;
            fault 5 @ woman w @100;
            fault 5 @ town a; town b; cart c a b @100;
            fault 5 @ frost @101;
            text costs = 9999; thread 9999; seed 9999; frost 100;
            """);
    }

    private static void inPlace() {
        DOC.says(4, "A text with a FAULT changes nothing but the tape;", """
            text town a; town b; seam a b 9 4; cart c a b 5; thread 50; wears = 2;
            sew(0, 3) = 3
            send(0) = 1
            hold(1) = 1
            tell(0, 1, 9) = 0
            fault 5 @ town x; town y; town z; thread 7; wears = 1; seed 3; frost @101;
            count(8) = 0
            count(0) = 2
            count(5) = 47
            count(7) = 1
            count(9) = 2
            count(10) = 1
            count(11) = 1
            seam(0, 3) = 7
            seam(0, 5) = 2
            fault 1 @ town x; @x
            seam(0, 5) = 2
            fault 3 @ wears = 1; town x; town @x;
            seam(0, 5) = 2
            undo() = 1
            undo() = 1
            seam(0, 3) = 4
            """);
        DOC.says(4, "else it is in place of the one ahead: week 0, SEAMS and THREAD as told, CARTS at home; nothing can be undone, nothing is TOLD, "
            + "SLOTS hold nothing.", """
            text town a; town b; seam a b 9 9; cart c a b 5; woman w 3; wears = 2; thread 50; frost 14; seed 9999;
            count(12) = 1
            send(0) = 1
            weeks(1) = 1
            sew(0, 1) = 1
            hold(0) = 1
            tell(0, 1, 9) = 0
            cart(0, 3) = 1
            text town a; town b; seam a b 9 9; cart c a b 5; thread 60;
            count(4) = 0
            count(5) = 60
            seam(0, 3) = 9
            seam(0, 5) = 1
            count(2) = 0
            count(12) = 0
            count(13) = 0
            cart(0, 3) = 0
            cart(0, 5) = 0
            cart(0, 7) = 0
            count(9) = 0
            undo() = 0
            count(10) = 0
            cuts(1, 0) = -1
            count(11) = 0
            restore(0) = 0
            text frost 14;
            count(12) = 0
            text frost 53;
            count(12) = 1
            """);
    }
}
