/** The sentences about texts that name a bound: the terms' text part, and promises 1 to 5. */
public final class TextBoundsTest {
    private static final Check CHECK = new Check("TextBoundsTest");
    private static final Script SCRIPT = new Script(CHECK);
    private static final String WORDS = "town seam woman cart costs wears puckers toll thread frost seed if then else length "
        + "sewn week frosty carted which load new ways";
    private static final String SEVEN = "town a;town b;town c;town d;town e;town f;town g;";
    private static final String TEN = "seam a b 1 1;seam a c 1 1;seam a d 1 1;seam a e 1 1;seam a f 1 1;seam a g 1 1;"
        + "seam b c 1 1;seam b d 1 1;seam b e 1 1;seam b f 1 1;";
    // One if of a law, and a TELL of three tokens.
    private static final String IF = "if 2<1 then 3 else ";
    private static final String SEED = "seed 1;";

    public static void main(String[] args) {
        newObject();
        feedBytes();
        feedTooMuch();
        backBytes();
        readEmpties();
        placeOfLatest();
        longestText();
        blanks();
        namesAsTokens();
        intsAsTokens();
        signsAsTokens();
        sortsAndNumbers();
        lastOneHolds();
        firstFault();
        syntaxFaults();
        roomOfTokens();
        roomOfSorts();
        roomOfLaws();
        twice();
        nameFaults();
        wrongNumbers();
        faultyText();
        goodText();
        CHECK.end();
    }

    private static void fault(String sentence, int number, int place, String text) {
        SCRIPT.says(4, sentence, "fault " + number + " " + place + " " + text);
    }

    /** Reads bytes as they are, blanks at the ends too. */
    private static void bytes(String label, String text, int number, int place) {
        SewnRoads x = new SewnRoads();
        CHECK.due(label + ": read()", Check.read(x, text), number);
        CHECK.due(label + ": place()", x.place(), place);
    }

    private static void newObject() {
        SCRIPT.says(1, "No TOWNS, no SEAMS.", """
            count(0) = 0
            count(1) = 0
            count(2) = 0
            count(3) = 0
            count(4) = 0
            count(5) = 100
            count(6) = 0
            count(7) = 0
            count(8) = 0
            count(9) = 0
            count(10) = 0
            count(11) = 0
            count(12) = 0
            count(13) = 0
            count(14) = 0
            place() = -1
            seam(0, 0) = -1
            joined(0) = -1
            far(0, 0) = -1
            sewing(0, 99, 1) = 0
            sewing(1, 1, 0) = -1
            hangs() = 0
            rows() = 0
            march(0) = -2
            cuts(0, 1) = 0
            ask(0) = -2
            hold(2) = 1
            weeks(60) = 60
            restore(2) = 1
            count(4) = 0
            """);
    }

    private static void feedBytes() {
        SCRIPT.quoted("Twenty bytes, the highest of a first, come behind the tape: how many it has.");
        for (int at = 0; at < 20; at++) {
            int[] fours = {0x20202020, 0x20202020, 0x20202020, 0x20202020, 0x20202020};
            // 255, so that a sign that is carried along would be seen.
            fours[at / 4] |= 255 << 8 * (3 - at % 4);
            SewnRoads x = new SewnRoads();
            CHECK.due("promise 2: feed", x.feed(fours[0], fours[1], fours[2], fours[3], fours[4]), 20);
            CHECK.due("promise 2: read() with byte " + at + " that is no token", x.read(), 1);
            CHECK.due("promise 2: its place", x.place(), at);
        }
        SCRIPT.says(2, "Twenty bytes, the highest of a first, come behind the tape: how many it has.", """
            feed(-1, -1, -1, -1, -1) = 20
            feed(-2147483648, 2147483647, 0, 0, 0) = 40
            count(8) = 40
            read() = 1
            place() = 0
            """);
    }

    private static void feedTooMuch() {
        SCRIPT.says(2, "NONE, and nothing comes, if it would have more than 2,000.", """
            times 99 feed(538976288, 538976288, 538976288, 538976288, 538976288)
            count(8) = 1980
            feed(538976288, 538976288, 538976288, 538976288, 538976288) = 2000
            feed(0, 0, 0, 0, 0) = -1
            count(8) = 2000
            back(19) = 1981
            feed(0, 0, 0, 0, 0) = -1
            count(8) = 1981
            back(1) = 1980
            feed(538976288, 538976288, 538976288, 538976288, 538976288) = 2000
            read() = 0
            place() = -1
            feed(538976288, 538976288, 538976288, 538976288, 538976288) = 20
            """);
    }

    private static void backBytes() {
        SCRIPT.says(3, "The last n bytes of the tape go: how many it has.", """
            back(0) = 0
            feed town a; town b; seam
            back(0) = 20
            back(4) = 16
            back(8) = 8
            feed town b;town c;town d
            back(1) = 27
            read() = 1
            place() = 27
            feed town a; town b; seam
            back(12) = 8
            read() = 0
            count(0) = 1
            feed town a; town b; seam
            back(20) = 0
            read() = 0
            count(0) = 0
            """);
        SCRIPT.says(3, "NONE, and nothing goes, if it has not so many, or n is below 0.", """
            back(1) = -1
            back(-1) = -1
            feed town a;
            back(8) = -1
            back(-1) = -1
            back(2147483647) = -1
            back(-2147483648) = -1
            count(8) = 7
            read() = 0
            count(0) = 1
            back(1) = -1
            feed town a;
            back(7) = 0
            """);
    }

    private static void readEmpties() {
        SCRIPT.says(4, "The tape, which is empty then, is read: 0, or the number of its FAULT.", """
            feed town a;
            read() = 0
            count(8) = 0
            count(0) = 1
            feed town
            read() = 1
            count(8) = 0
            count(0) = 1
            read() = 0
            count(0) = 0
            """);
    }

    private static void placeOfLatest() {
        SCRIPT.says(5, "The byte of the latest read()'s FAULT; NONE without.", """
            place() = -1
            feed ?
            place() = -1
            read() = 1
            place() = 0
            feed town a;
            place() = 0
            weeks(1) = 1
            undo() = 1
            back(8) = -1
            place() = 0
            fault 3 12 town a;town a;
            place() = 12
            read() = 0
            place() = -1
            """);
    }

    private static void longestText() {
        SCRIPT.quoted("A TEXT has 2,000 bytes at most.");
        SCRIPT.quoted("(a byte; the text's end: its length)");
        String label = "a text of 2,000 bytes";
        bytes(label, " ".repeat(2000), 0, -1);
        bytes(label, " ".repeat(1993) + "town a;", 0, -1);
        bytes(label, " ".repeat(1993) + "town a?", 1, 1999);
        bytes(label, " ".repeat(1993) + "town  a", 1, 2000);
        bytes(label, "town" + " ".repeat(1996), 1, 2000);
        bytes(label, "a".repeat(2000), 1, 0);
        bytes(label, "town " + "1".repeat(1995), 1, 5);
        bytes(label, "town a; town b; seam a b 1 1; " + " ".repeat(1965) + "frost", 1, 2000);
        bytes("a text of one byte", ";", 1, 0);
        bytes("no byte at all", "", 0, -1);
    }

    private static void blanks() {
        SCRIPT.quoted("with blanks (9, 10, 13, 32) between or not");
        for (int b = 0; b < 256; b++) {
            boolean blank = b == 9 || b == 10 || b == 13 || b == 32;
            boolean letter = b >= 'a' && b <= 'z';
            // With a letter between them the two are one NAME, with which no text begins.
            bytes("byte " + b + " between 'town' and a", "town" + (char) b + "a;", blank ? 0 : 1, blank ? -1 : letter ? 0 : 4);
            bytes("byte " + b + " in front", (char) b + " ", blank ? 0 : 1, blank ? -1 : 0);
        }
        fault("with blanks (9, 10, 13, 32) between or not", 0, -1, "\\t\\n\\r town\\t\\ta\\n\\n;\\r\\rtown b;\\n");
        fault("with blanks (9, 10, 13, 32) between or not", 0, -1, "town a;town b;seam a b1 2;costs=if(1)<(2)then(3)else(4);");
        fault("TOKENS, the longest that can be", 1, 0, "towna;");
        fault("TOKENS, the longest that can be", 1, 22, "town a;town b;seam ab 1 2;");
        fault("TOKENS, the longest that can be", 1, 25, "town a;town b;seam a b 12;");
        fault("TOKENS, the longest that can be", 1, 8, "costs = ifx<2 then 3 else 4;");
    }

    private static void namesAsTokens() {
        String sentence = "NAMES (letters a .. z, 8 at most, none of the words in quotes)";
        fault(sentence, 0, -1, "town a;town z;");
        fault(sentence, 0, -1, "town az;town zzzzzzzz;town aaaaaaaa;");
        fault(sentence, 1, 5, "town zzzzzzzzz;");
        fault(sentence, 1, 5, "town aaaaaaaaa;");
        fault(sentence, 1, 22, "town abcdefgh;   town abcdefghi;");
        // Eight letters that differ in the last, or in the first, are two NAMES; one more or less letter is another.
        fault(sentence, 0, -1, "town zzzzzzza;town zzzzzzzz;town azzzzzzz;town zzzzzzz;");
        for (char letter = 'a'; letter <= 'z'; letter++) {
            String one = String.valueOf(letter);
            fault(sentence, 0, -1, "town " + one + ";town " + one.repeat(2) + ";town " + one.repeat(7) + ";town " + one.repeat(8) + ";");
        }
        fault(sentence, 3, 19, "town zzzzzzzz;town zzzzzzzz;");
        for (int b = 33; b < 256; b++) {
            boolean letter = b >= 'a' && b <= 'z';
            bytes("NAME of byte " + b, "town " + (char) b + ";", letter ? 0 : 1, letter ? -1 : 5);
        }
        for (String word : WORDS.split(" ")) {
            fault(sentence, 1, 5, "town " + word + ";");
            fault(sentence, 1, 6, "woman " + word + " 1;");
            fault(sentence, 1, 9, "cart c a " + word + " 1;");
            fault(sentence, 0, -1, "town z" + word + ";");
            fault(sentence, 0, -1, "town " + word + "z;");
        }
    }

    private static void intsAsTokens() {
        String sentence = "INTS (1 to 4 digits)";
        fault(sentence, 0, -1, "seed 0;");
        fault(sentence, 0, -1, "seed 9999;");
        fault(sentence, 0, -1, "seed 0000;");
        fault(sentence, 1, 5, "seed 00000;");
        fault(sentence, 1, 5, "seed 10000;");
        fault(sentence, 1, 5, "seed 99999999999999999999;");
        fault(sentence, 1, 5, "seed 4294967297;");
        fault(sentence, 1, 5, "seed ;");
        fault(sentence, 1, 10, "seed 1234 5;");
        for (int b = 33; b < 256; b++) {
            boolean digit = b >= '0' && b <= '9';
            bytes("INT of byte " + b, "seed " + (char) b + ";", digit ? 0 : 1, digit ? -1 : 5);
        }
        SCRIPT.says(4, sentence, """
            text town a; town b; seam a b 0007 0099; thread 0042;
            seam(0, 2) = 7
            seam(0, 3) = 99
            count(5) = 42
            """);
    }

    private static void signsAsTokens() {
        SCRIPT.quoted("SIGNS ; = + - * / < ( ) . A longer one, all else, is no TOKEN.");
        for (int b = 33; b < 256; b++) {
            boolean digit = b >= '0' && b <= '9';
            boolean goesOn = digit || b == '+' || b == '-' || b == '*' || b == '/';
            sign(b, goesOn, "costs=1", "2;", b == ';' ? 8 : 7);
            sign(b, b == '=', "costs ", "1;", 6);
            sign(b, b == '<', "costs=if 1", "2 then 3 else 4;", goesOn ? 13 : 10);
            sign(b, b == '(', "costs=", "1);", digit ? 8 : 6);
            sign(b, b == ')', "costs=(1", ";", goesOn ? 9 : 8);
            sign(b, b == ';', "seed 1", "", digit ? 7 : 6);
        }
    }

    private static void sign(int b, boolean fits, String ahead, String behind, int place) {
        bytes("byte " + b + " behind " + ahead, ahead + (char) b + behind, fits ? 0 : 1, fits ? -1 : place);
    }

    private static void sortsAndNumbers() {
        SCRIPT.says(4, "numbered each from 0 on as they stand", """
            text town b; woman w 1; town a; seam a b 3 4; town c; seam c a 5 6; cart x b c 7; woman v 2; cart y c a 8;
            seam(0, 0) = 1
            seam(0, 1) = 0
            seam(1, 0) = 2
            seam(1, 1) = 1
            seam(1, 2) = 5
            seam(2, 0) = -1
            cart(0, 0) = 0
            cart(0, 1) = 2
            cart(1, 0) = 2
            cart(1, 1) = 1
            cart(2, 0) = -1
            joined(2) = 7
            joined(3) = -1
            """);
        SCRIPT.says(4, "TOWNS, 7 at most (a NAME)", "text " + SEVEN + "\ncount(0) = 7\njoined(6) = 64\njoined(7) = -1");
        SCRIPT.says(4, "SEAMS, 10 at most (two TOWNS, either way, LENGTH 1 .. 99, how well it is SEWN 0 .. 99)",
            "text " + SEVEN + TEN + "\ncount(1) = 10\nseam(9, 1) = 5\nseam(10, 0) = -1\nfar(5, 1) = 1\nfar(1, 5) = 1");
        SCRIPT.says(4, "WOMEN, 3 at most (a NAME, how many stitches she makes in a week 1 .. 99)", """
            text woman a 99; woman b 99; woman c 99;
            count(2) = 3
            count(13) = 297
            text woman a 1;
            count(13) = 1
            """);
        SCRIPT.says(4, "CARTS, 4 at most (a NAME, from which TOWN to which, LOAD 0 .. 99)", """
            text town a; town b; cart c a b 0; cart d b a 99; cart e a b 1; cart f b a 98;
            count(3) = 4
            cart(0, 2) = 0
            cart(1, 2) = 99
            cart(3, 0) = 1
            cart(3, 2) = 98
            cart(4, 0) = -1
            """);
    }

    private static void lastOneHolds() {
        SCRIPT.says(4, "LAWS: COSTS (1), WEARS (1), PUCKERS (0), TOLL (length), if not told; the last one.", """
            text town a; town b; seam a b 44 7;
            seam(0, 4) = 1
            seam(0, 5) = 1
            seam(0, 6) = 44
            toll(0, 0) = 44
            toll(0, 99) = 44
            text town a; town b; seam a b 44 7; costs = 5; wears = 6; puckers = 7; toll = 8; costs = 15; wears = 16; puckers = 17; toll = 18;
            seam(0, 4) = 15
            seam(0, 5) = 16
            seam(0, 6) = 27
            toll(0, 0) = 18
            text town a; town b; seam a b 44 7; costs = 25;
            seam(0, 4) = 25
            seam(0, 5) = 1
            seam(0, 6) = 44
            toll(0, 0) = 44
            """);
        SCRIPT.says(4, "THREAD 0 .. 9999 (100), FROST: in how many of 100 weeks 0 .. 100 (0), SEED 0 .. 9999 (0): the last one.", """
            text town a;
            count(5) = 100
            count(12) = 0
            text thread 0;
            count(5) = 0
            text thread 9999;
            count(5) = 9999
            text thread 9999; thread 3;
            count(5) = 3
            text frost 0; frost 100;
            count(12) = 1
            text frost 100; frost 0;
            count(12) = 0
            """);
        // FROST is 0 if it is not told, though LOT 100 of SEED 45 is 0; SEED too, though the text ahead told one.
        SCRIPT.run(4, "text seed 45;\ncount(12) = 0\ntext seed 45; frost 1;\ncount(12) = 1\ntext seed 45;\ncount(12) = 0");
        SCRIPT.run(4, "text seed 45; frost 50;\ntext frost " + lot(0, 0) + ";\ncount(12) = 0");
        SCRIPT.run(4, "text seed 192; frost 50;\ntext frost " + (lot(0, 0) + 1) + ";\ncount(12) = 1");
        // The last SEED counts, its greatest too; 0 if none is told.
        SCRIPT.run(4, "text frost " + lot(0, 0) + ";\ncount(12) = 0\ntext frost " + (lot(0, 0) + 1) + ";\ncount(12) = 1");
        for (int seed : new int[] {0, 1, 9998, 9999}) {
            int lot = lot(seed, 0);
            SCRIPT.run(4, "text seed 5; frost " + lot + "; seed " + seed + ";\ncount(12) = 0\ntext seed 5; frost "
                + (lot + 1) + "; seed " + seed + ";\ncount(12) = 1");
        }
    }

    /** LOT 100, by longs and remainders instead of ints that wrap and bits that move. */
    static int lot(int seed, int which) {
        long two32 = 1L << 32;
        long h = seed;
        for (long with : new long[] {107, which}) {
            h = (h ^ with) % two32;
            h = Long.remainderUnsigned(h * 1103515245L + 12345, two32);
            h = h ^ h / 32768;
        }
        return (int) (h / 2 % 100);
    }

    private static void firstFault() {
        String place = "FAULTS of a text, the first by its place (a byte; the text's end: its length), of one place the least";
        fault(place, 1, 5, "town ;" + SEVEN + "town h;");
        fault(place, 2, 49, SEVEN + "town h; town ;");
        fault(place, 1, 60, "frost 101; " + SEVEN + "?");
        fault(place, 1, 4, "town");
        fault(place, 1, 8, "town\\x20\\x20\\n\\t");
        fault(place, 1, 6, "seed 1");
        // The 401st is no TOKEN, or one with which no text goes on, or is missing: all SYNTAX, the lesser one.
        fault(place, 1, 936, SEED.repeat(133) + "seed ?");
        fault(place, 1, 936, SEED.repeat(133) + "seed ;");
        fault(place, 1, 936, SEED.repeat(133) + "seed 12345;");
        fault(place, 1, 935, SEED.repeat(133) + "seed");
        fault(place, 2, 936, SEED.repeat(133) + "seed 1;");
        fault("If there is none, likewise", 1, 31, "frost 101; town a; town a; town");
        fault("If there is none, likewise", 2, 67, "frost 101; town a;seed 1;" + SEVEN.substring(7) + "town h;town i;");
        fault("If there is none, likewise", 5, 6, "frost 101; town a; town a;");
        fault("If there is none, likewise", 3, 13, "town a; town a; frost 101;");
        fault("If there is none, likewise", 4, 13, "town a; seam b a 0 100; town a;");
        fault("If there is none, likewise", 5, 6, "frost 101; frost 102;");
        fault("If there is none, likewise", 5, 25, "town a; town b; seam a b 0 100; seam a a 1 1; seam z a 1 1;");
    }

    private static void syntaxFaults() {
        fault("text: {TELL}.", 0, -1, "");
        fault("text: {TELL}.", 0, -1, SEED.repeat(133));
        String sentence = "1 SYNTAX: a TOKEN, or what is none, with which no text goes on.";
        fault(sentence, 1, 0, "if");
        fault(sentence, 1, 0, "week");
        fault(sentence, 1, 0, "a;");
        fault(sentence, 1, 0, "7;");
        fault(sentence, 1, 7, "town a;;");
        fault(sentence, 1, 7, "town a;.");
        fault(sentence, 1, 6, "town a");
        String[] tells = {"town a ;", "seam a b 1 2 ;", "woman w 1 ;", "cart c a b 1 ;", "thread 5 ;", "frost 5 ;", "seed 5 ;",
            "costs = 1 ;", "toll = ( load ) * 2 - 1 / ways + 3 ;", "wears = if 1 < 2 then 3 else if 4 < 5 then 6 else 7 ;"};
        for (String tell : tells) {
            String[] tokens = tell.split(" ");
            int place = 0;
            String ahead = "";
            for (String token : tokens) {
                // What is none, the text's end, and a TOKEN that may not stand there.
                fault(sentence, 1, place, ahead + "?");
                if (place > 0) {
                    fault(sentence, 1, ahead.stripTrailing().length(), ahead);
                }
                fault(sentence, 1, place, ahead + (token.equals("=") ? "then" : "="));
                ahead += token + " ";
                place = ahead.length();
            }
        }
    }

    private static void roomOfTokens() {
        String sentence = "2 ROOM: a 401st TOKEN";
        // 399, 400 and 401 TOKENS, in TELLS of three and of four.
        fault(sentence, 0, -1, SEED.repeat(133));
        fault(sentence, 0, -1, SEED.repeat(132) + "toll=1;");
        fault(sentence, 2, 931, SEED.repeat(132) + "toll=1;" + SEED);
        fault(sentence, 2, 936, SEED.repeat(134));
        fault(sentence, 2, 936, SEED.repeat(285));
        fault(sentence, 1, 931, SEED.repeat(132) + "toll=1;?");
        fault(sentence, 0, -1, SEED.repeat(132) + "toll=1;\\n\\x20");
        fault(sentence, 2, 931, SEED.repeat(132) + "toll=1;frost");
        // The 401st is each sort of TOKEN in turn; a law alone has an odd number of them ahead of its ;.
        String law = "toll=1;";
        String sum = "+1".repeat(198);
        fault(sentence, 0, -1, "toll=1" + sum + ";");
        // As long as a law can be behind a SEAM, it is reckoned to its end.
        SCRIPT.says(8, sentence, "text town a;town b;seam a b 7 5;toll=" + "0+".repeat(192) + "7;\ntoll(0, 0) = 7");
        SCRIPT.says(8, sentence, "text town a;town b;seam a b 7 5;toll=" + "1*".repeat(192) + "load;\ntoll(0, 44) = 44");
        fault(sentence, 2, 27 + 5 + 2 * 193, "town a;town b;seam a b 7 5;toll=" + "0+".repeat(193) + "7;");
        fault(sentence, 2, 403, "toll=1" + sum + "+1;");
        fault(sentence, 2, 403, "toll=1" + sum + "+week;");
        fault(sentence, 2, 403, "toll=1" + sum + "+(1);");
        fault(sentence, 2, 403, "toll=(1" + sum + ");");
        fault(sentence, 2, 407, SEED + "toll=1" + "+1".repeat(197) + ";");
        fault(sentence, 2, 407, SEED + "toll=1" + "+1".repeat(197) + "-1;");
        fault(sentence, 2, 407, SEED + "toll=1" + "+1".repeat(197) + "*1;");
        fault(sentence, 2, 935, SEED.repeat(133) + "toll=1;");
        fault(sentence, 2, 929, SEED.repeat(130) + law.repeat(2) + "toll=if 1<2 then 3 else 4;");
        fault(sentence, 2, 933, SEED.repeat(132) + "toll=if 1<2 then 3 else 4;");
        fault(sentence, 2, 929, SEED.repeat(130) + law + "toll=if 1<2 then 3 else 4;");
        fault(sentence, 2, 929, SEED.repeat(128) + law.repeat(2) + "toll=if 1<2 then 3 else 4;");
        fault(sentence, 2, 936, SEED.repeat(133) + "town a;");
        fault(sentence, 2, 931, SEED.repeat(130) + law.repeat(2) + "seam a b 1 1;");
        fault(sentence, 2, 933, SEED.repeat(131) + law + "seam a b 1 1;");
    }

    private static void roomOfSorts() {
        String sentence = "one more of a sort than told (at its first TOKEN)";
        String towns = SEVEN;
        fault(sentence, 2, 49, towns + "town h;");
        fault(sentence, 2, 50, towns + " town a;");
        fault(sentence, 2, 49, towns + "town");
        fault(sentence, 2, 49, towns + "town ?");
        fault(sentence, 0, -1, towns + TEN);
        fault(sentence, 2, 179, towns + TEN + "seam b g 1 1;");
        fault(sentence, 2, 179, towns + TEN + "seam");
        fault(sentence, 2, 130, "seam a b 1 1;".repeat(11));
        fault(sentence, 4, 5, "seam a b 1 1;".repeat(10));
        fault(sentence, 2, 30, "woman h 1;woman i 1;woman j 1;woman k 1;");
        fault(sentence, 0, -1, "woman h 1;woman i 1;woman j 1;");
        String carts = "cart h a b 1;cart i a b 1;cart j a b 1;cart k a b 1;";
        fault(sentence, 2, 101, towns + carts + "cart l a b 1;");
        fault(sentence, 2, 101, towns + carts + "cart 5");
        fault(sentence, 0, -1, towns + carts + TEN + "woman l 1;woman m 1;woman n 1;");
        // Of what there may be any number.
        fault(sentence, 0, -1, "thread 1;frost 1;seed 1;costs=1;wears=1;toll=1;puckers=1;".repeat(16));
    }

    private static void roomOfLaws() {
        String ifs = "a 5th if of a LAW (at it)";
        fault(ifs, 0, -1, "toll=" + IF.repeat(4) + "1;");
        fault(ifs, 2, 81, "toll=" + IF.repeat(5) + "1;");
        fault(ifs, 2, 81, "toll=" + IF.repeat(4) + "if");
        fault(ifs, 2, 81, "toll=" + IF.repeat(4) + "if ?");
        fault(ifs, 0, -1, "toll=" + IF.repeat(4) + "1;toll=" + IF.repeat(4) + "1;costs=" + IF.repeat(4) + "1;");
        SCRIPT.says(4, ifs, "text town a; town b; seam a b 1 1; toll = " + IF.repeat(3) + "if 1<2 then 5 else 6;\ntoll(0, 0) = 5\n"
            + "text town a; town b; seam a b 1 1; toll = " + IF.repeat(4) + "6;\ntoll(0, 0) = 6");
        String open = "a 7th ( within one another (at it)";
        fault(open, 0, -1, "toll=((((((1))))));");
        fault(open, 2, 11, "toll=(((((((1)))))));");
        fault(open, 2, 11, "toll=(((((((");
        fault(open, 1, 11, "toll=((((((;");
        // Six within one another, more than six of them side by side, and a 7th behind a ) that is closed.
        fault(open, 0, -1, "toll=((((((1))))))+((((((1))))))*((((((1))))))-(1)/(2);");
        fault(open, 0, -1, "toll=((((((1)+(1))))));");
        fault(open, 2, 15, "toll=((((((1)+((1)))))));");
        fault(open, 0, -1, "toll=if((((((1))))))<((((((2))))))then((((((3))))))else((((((4))))));");
        fault(open, 2, 13, "toll=if(((((((1)))))))<2 then 3 else 4;");
        fault(open, 2, 16, "toll=if 1<(((((((2)))))))then 3 else 4;");
        fault(open, 2, 22, "toll=if 1<2 then(((((((3)))))))else 4;");
        fault(open, 2, 29, "toll=if 1<2 then 3 else(((((((4)))))));");
    }

    private static void twice() {
        String name = "3 TWICE: a NAME told already (all together)";
        String[] sorts = {"town a;", "woman a 1;", "cart a y z 1;"};
        for (String first : sorts) {
            for (String second : sorts) {
                String text = "town y;town z;" + first + second;
                fault(name, 3, 14 + first.length() + second.indexOf(' ') + 1, text);
            }
        }
        fault(name, 3, 19, "town abcdefgh;town abcdefgh;");
        // As many NAMES as there can be: the last one is that of any one ahead.
        String names = SEVEN + "woman h 1;woman i 1;woman j 1;cart k a b 1;cart l a b 1;cart m a b 1;";
        fault(name, 0, -1, names + "cart n a b 1;");
        for (char one = 'a'; one <= 'm'; one++) {
            fault(name, 3, 123, names + "cart " + one + " a b 1;");
        }
        String self = "(at the second NAME) a SEAM of a TOWN with itself, or that there is between the two already; a CART from a TOWN to itself.";
        fault(self, 3, 14, "town a;seam a a 1 1;");
        fault(self, 3, 34, "town a;town b;seam a b 1 1;seam a b 1 1;");
        fault(self, 3, 34, "town a;town b;seam a b 1 1;seam b a 1 1;");
        fault(self, 3, 173, SEVEN + TEN.substring(0, 117) + "seam b a 1 1;");
        fault(self, 3, 173, SEVEN + TEN.substring(0, 117) + "seam e b 1 1;");
        fault(self, 3, 16, "town a;cart c a a 1;");
        fault(self, 0, -1, "town a;town b;cart c a b 1;cart d a b 1;");
        fault(self, 3, 14, "town a;seam a a 0 100;");
    }

    private static void nameFaults() {
        String sentence = "4 NAME: (at it) no such TOWN told ahead";
        fault(sentence, 4, 5, "seam a b 1 1;town a;town b;");
        fault(sentence, 4, 14, "town a;seam a b 1 1;town b;");
        fault(sentence, 4, 12, "town a;seam b a 1 1;town b;");
        fault(sentence, 4, 5, "seam a a 1 1;");
        fault(sentence, 4, 7, "cart c a b 1;town a;town b;");
        fault(sentence, 4, 16, "town a;cart c a b 1;town b;");
        fault(sentence, 4, 14, "town a;cart c b a 1;town b;");
        fault(sentence, 4, 14, "town a;cart c c a 1;");
        fault(sentence, 4, 24, "town a;woman w 1;seam a w 1 1;");
        fault(sentence, 4, 34, "town a;town b;cart c a b 1;seam b c 1 1;");
        fault(sentence, 4, 12, "town a;seam aa a 1 1;");
        fault(sentence, 0, -1, "town a;town b;seam a b 1 1;cart c b a 1;");
        // The second one's TELL has its own fault, ahead of all that could be asked of the NAME.
        String first = "(a NAME told more than once is that of the first one)";
        fault(first, 3, 19, "town b;town a;town a;seam a b 1 1;");
        fault(first, 3, 22, "town b;woman a 1;town a;seam a b 1 1;");
        fault(first, 3, 20, "town b;town a;woman a 1;seam a b 1 1;");
        fault(first, 3, 19, "town b;town a;cart a a b 1;seam a a 1 1;");
    }

    private static void wrongNumbers() {
        String sentence = "5 WRONG (at the INT): a number not as told above.";
        String two = "town a;town b;";
        fault(sentence, 5, 23, two + "seam a b 0 5;");
        fault(sentence, 5, 22, two + "woman w 0;");
        fault(sentence, 5, 23, two + "seam a b 100 5;");
        fault(sentence, 5, 25, two + "seam a b 1 100;");
        fault(sentence, 5, 26, two + "seam a b 99 9999;");
        fault(sentence, 5, 22, two + "woman w 100;");
        fault(sentence, 5, 25, two + "cart c a b 100;");
        fault(sentence, 5, 6, "frost 101;");
        fault(sentence, 5, 6, "frost 0101;");
        fault(sentence, 5, 6, "frost 101;frost 1;");
        fault(sentence, 0, -1, two + "seam a b 1 0;woman w 1;cart c a b 0;frost 0;thread 0;seed 0;");
        fault(sentence, 0, -1, two + "seam a b 99 99;woman w 99;cart c a b 99;frost 100;thread 9999;seed 9999;costs=9999;");
    }

    private static void faultyText() {
        String busy = """
            text town a; town b; seam a b 7 3; woman w 4; cart c a b 5; thread 50; costs = 2; puckers = 1; toll = 9; wears = 0; frost 100;
            send(0) = 1
            weeks(1) = 1
            sew(0, 1) = 1
            hold(1) = 1
            tell(0, 1, 7) = 0
            """;
        String same = """
            count(0) = 2
            count(1) = 1
            count(2) = 1
            count(3) = 1
            count(4) = 1
            count(5) = 48
            count(8) = 0
            count(9) = 3
            count(10) = 1
            count(11) = 1
            count(12) = 1
            count(13) = 4
            count(14) = 4
            seam(0, 2) = 7
            seam(0, 4) = 2
            seam(0, 5) = 0
            seam(0, 6) = 6
            toll(0, 1) = 9
            cart(0, 3) = 1
            cart(0, 7) = 1
            cuts(1, 1) = 0
            undo() = 1
            undo() = 1
            undo() = 1
            undo() = 0
            restore(1) = 1
            count(5) = 48
            """;
        String next = "town x; town y; town z; seam z y 9 9; woman v 1; cart d x y 1; thread 1; costs = 9; wears = 8; toll = 7; puckers = 5; "
            + "frost 0; seed 5; ";
        String sentence = "A text with a FAULT changes nothing but the tape";
        SCRIPT.says(4, sentence, busy + "fault 1 " + next.length() + " " + next + "?\n" + same);
        SCRIPT.says(4, sentence, busy + "fault 1 " + (next.length() + 4) + " " + next + "town\n" + same);
        SCRIPT.says(4, sentence, busy + "fault 2 " + (next.length() + 28) + " " + next + SEVEN.substring(21) + SEVEN + "\n" + same);
        SCRIPT.says(4, sentence, busy + "fault 3 " + (next.length() + 5) + " " + next + "town x;\n" + same);
        SCRIPT.says(4, sentence, busy + "fault 4 " + (next.length() + 5) + " " + next + "seam a x 1 1;\n" + same);
        SCRIPT.says(4, sentence, busy + "fault 5 " + (next.length() + 6) + " " + next + "frost 101;\n" + same);
    }

    private static void goodText() {
        SCRIPT.says(4, "else it is in place of the one ahead: week 0, SEAMS and THREAD as told, CARTS at home; nothing can be undone, "
            + "nothing is TOLD, SLOTS hold nothing.", """
            text town a; town b; seam a b 7 30; cart c a b 5; thread 50;
            send(0) = 1
            weeks(1) = 1
            send(0) = 1
            sew(0, 1) = 1
            times 1 hold(0)
            times 1 hold(1)
            times 1 hold(2)
            times 20 tell(0, 1, 7)
            count(10) = 20
            text town a; town b; seam a b 7 30; cart c a b 5; thread 50;
            count(4) = 0
            count(5) = 50
            seam(0, 3) = 30
            cart(0, 3) = 0
            cart(0, 4) = 0
            cart(0, 5) = 0
            cart(0, 6) = 0
            cart(0, 7) = 0
            count(7) = 0
            count(9) = 0
            undo() = 0
            count(10) = 0
            cuts(1, 0) = -1
            count(11) = 0
            restore(0) = 0
            restore(1) = 0
            restore(2) = 0
            read() = 0
            count(0) = 0
            count(1) = 0
            count(3) = 0
            count(5) = 100
            """);
    }
}
