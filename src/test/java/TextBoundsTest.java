/** The bounds of the text, sentence by sentence: part 1 of the terms, promises 1 to 4. */
public final class TextBoundsTest {
    private static final int NONE = -1, UNKNOWN = -1000000001, OUTSIDE = -1000000002, NOT = -1000000003, FULL = -1000000004;
    private static final int[] FAR_OUT = {Integer.MIN_VALUE, Integer.MIN_VALUE + 1, -256, -2, -1, 256, 257, 1000, Integer.MAX_VALUE};

    private static final String TWO = "s0 0;s1 1;";
    private static final String EIGHT = "s0 0;".repeat(8);
    private static final String ROW_OF_EIGHT = EIGHT + "e0 1;e1 2;e2 3;e3 4;e4 5;e5 6;e6 7;";

    private static final Check CHECK = new Check();

    public static void main(String[] args) {
        newObject();
        letters();
        fullText();
        fullGoodText();
        fullTextWithoutEnd();
        emptyText();
        numbersInBounds();
        numbersOfThreeFigures();
        firstLetters();
        lettersBehindWord();
        lettersBehindFirstNumber();
        lettersBehindSecondNumber();
        lettersBehindClause();
        oneLetterWords();
        blanksAnywhere();
        blanksWithinNumbers();
        numbersSideBySide();
        textEnds();
        stationsTooMany();
        stretchesTooMany();
        linesTooMany();
        fullNet();
        stationsThatThereAreNot();
        toldAhead();
        numberedAsTheyCome();
        firstLetterWithAFault();
        leastFaultOfOneLetter();
        toItself();
        ring();
        gap();
        whyOfOtherFaults();
        faultOfTheLatestNet();
        textIsEmptyThen();
        netAnew();
        netsOneBehindAnother();
        netWithFault();
        CHECK.end();
    }

    private static void due(String call, long got, long want) {
        CHECK.due(call, got, want);
    }

    private static void reads(String text, int answer, int at, int why) {
        CHECK.reads(text, answer, at, why);
    }

    private static void reads(String text, int stations) {
        CHECK.reads(text, stations, NONE, 0);
    }

    /** "No STATIONS." */
    private static void newObject() {
        CHECK.part("promise 1, no stations");
        EightWays x = new EightWays();
        int[] told = {0, 0, 0, 0, 0, 1, 0, 0, 0, 0, 0, 0, 0};
        for (int what = 0; what < told.length; what++) {
            due("told(" + what + ")", x.told(what), told[what]);
        }
        for (int i = 0; i < 8; i++) {
            due("station(" + i + ", 0)", x.station(i, 0), UNKNOWN);
            due("move(" + i + ", 0, 0)", x.move(i, 0, 0), UNKNOWN);
            due("crossings(" + i + ")", x.crossings(i), UNKNOWN);
            due("stretch(" + i + ", 0)", x.stretch(i, 0), UNKNOWN);
            due("fix(" + i + ", 0)", x.fix(i, 0), UNKNOWN);
            due("would(" + i + ", 0)", x.would(i, 0), UNKNOWN);
            due("loose(" + i + ")", x.loose(i), UNKNOWN);
            due("order(" + i + ", 0)", x.order(i, 0), UNKNOWN);
            due("line(" + i + ", 0)", x.line(i, 0), UNKNOWN);
            due("along(" + i + ", 0)", x.along(i, 0), UNKNOWN);
            due("cross(" + i + ", 1)", x.cross(i, 1), UNKNOWN);
        }
        due("fault(0)", x.fault(0), NONE);
        due("fault(1)", x.fault(1), 0);
        due("plans()", x.plans(), 1);
        due("drift(1)", x.drift(1), NOT);
        due("undo()", x.undo(), NOT);
        due("goBack(0)", x.goBack(0), NOT);
        due("goBack(1)", x.goBack(1), NOT);
        due("net()", x.net(), 0);
    }

    /** "One letter (a number 0 .. 255) comes behind THE TEXT: how many it has. OUTSIDE" */
    private static void letters() {
        CHECK.part("promise 2, letters 0 .. 255");
        for (int letter = 0; letter <= 255; letter++) {
            due("feed(" + letter + ")", new EightWays().feed(letter), 1);
        }
        EightWays x = new EightWays();
        for (int letter : FAR_OUT) {
            due("feed(" + letter + ")", x.feed(letter), OUTSIDE);
            due("told(3)", x.told(3), 0);
        }
        due("feed('s')", x.feed('s'), 1);
        // 's' and 256 more is not taken for 's'
        due("feed('1' + 256)", x.feed('1' + 256), OUTSIDE);
        due("feed('1')", x.feed('1'), 2);
        due("told(3)", x.told(3), 2);
    }

    /** "(240 letters at most)", "FULL (240)" */
    private static void fullText() {
        CHECK.part("promise 2, full");
        EightWays x = new EightWays();
        for (int n = 1; n <= 240; n++) {
            due("feed(32)", x.feed(32), n);
        }
        due("told(3)", x.told(3), 240);
        for (int letter : new int[] {0, 32, 's', ';', 255}) {
            due("feed(" + letter + ") full", x.feed(letter), FULL);
        }
        for (int letter : FAR_OUT) {
            due("feed(" + letter + ") full", x.feed(letter), OUTSIDE);
        }
        due("told(3)", x.told(3), 240);
        due("net()", x.net(), 0);
        due("told(3)", x.told(3), 0);
        for (int n = 1; n <= 240; n++) {
            due("feed(32) anew", x.feed(32), n);
        }
        due("feed(32) full anew", x.feed(32), FULL);
    }

    private static void fullGoodText() {
        CHECK.part("promise 2, 240 letters are read");
        String text = "s12 34" + " ".repeat(233) + ";";
        EightWays x = new EightWays();
        Check.feed(x, text);
        due("told(3)", x.told(3), 240);
        due("feed('x')", x.feed('x'), FULL);
        due("net()", x.net(), 1);
        due("fault(0)", x.fault(0), NONE);
        due("station(0, 1)", x.station(0, 1), 34);
        EightWays one = new EightWays();
        Check.feed(one, " ".repeat(239) + "x");
        due("net()", one.net(), -11);
        due("fault(0)", one.fault(0), 239);
    }

    private static void fullTextWithoutEnd() {
        CHECK.part("promise 2, the 241st letter is not there");
        EightWays x = new EightWays();
        Check.feed(x, "s12 34" + " ".repeat(234));
        due("feed(';')", x.feed(';'), FULL);
        due("net()", x.net(), -11);
        due("fault(0)", x.fault(0), 240);
        due("fault(1)", x.fault(1), 0);
        due("told(0)", x.told(0), 0);
    }

    /** "An empty text (or one of blanks alone): no STATIONS." */
    private static void emptyText() {
        CHECK.part("an empty text");
        reads("", 0);
        reads(" ", 0);
        reads("  ", 0);
        reads(" ".repeat(240), 0);
        for (String nothing : new String[] {"", "   "}) {
            EightWays x = Check.netOf(ROW_OF_EIGHT + "l0 7;");
            Check.feed(x, nothing);
            due("net()", x.net(), 0);
            for (int what = 0; what <= 3; what++) {
                due("told(" + what + ")", x.told(what), 0);
            }
            due("station(0, 0)", x.station(0, 0), UNKNOWN);
            due("stretch(0, 0)", x.stretch(0, 0), UNKNOWN);
            due("line(0, 0)", x.line(0, 0), UNKNOWN);
            due("plans()", x.plans(), 1);
            due("drift(1)", x.drift(1), NOT);
        }
    }

    private static void lies(String text, int wantX, int wantY) {
        EightWays x = new EightWays();
        Check.feed(x, text);
        due("net() of " + text, x.net(), 1);
        due("station(0, 0) of " + text, x.station(0, 0), wantX);
        due("station(0, 1) of " + text, x.station(0, 1), wantY);
    }

    /** "0 .. 99 each", "NUMBERS have one or two figures" */
    private static void numbersInBounds() {
        CHECK.part("numbers of one or two figures");
        for (int n = 0; n <= 99; n++) {
            lies("s" + n + " " + (99 - n) + ";", n, 99 - n);
        }
        for (int n = 0; n <= 9; n++) {
            lies("s0" + n + " 0" + (9 - n) + ";", n, 9 - n);
        }
        lies("s00 00;", 0, 0);
        lies("s99 99;", 99, 99);
    }

    /** "2 a NUMBER of three figures or more .. (at its first)" */
    private static void numbersOfThreeFigures() {
        CHECK.part("numbers of three figures or more");
        for (String number : new String[] {"100", "000", "001", "999", "0000", "1234567890", "4294967296", "18446744073709551616"}) {
            reads("s" + number + " 1;", -12, 1, 0);
            reads("s1 " + number + ";", -12, 3, 0);
            reads("s  " + number, -12, 3, 0);
            reads(TWO + "e" + number + " 1;", -12, 11, 0);
            reads(TWO + "e1 " + number + ";", -12, 13, 0);
            reads(TWO + "l" + number + " 1;", -12, 11, 0);
            reads(TWO + "l1 " + number + ";", -12, 13, 0);
        }
        reads("s0 " + "0".repeat(237), -12, 3, 0);
    }

    private static boolean isFigure(int letter) {
        return "0123456789".indexOf(letter) >= 0;
    }

    private static String with(String head, int letter) {
        return head + (char) letter;
    }

    /** "1 it cannot stand there (a letter that is no word)": each of the 256 letters, at each kind of place. */
    private static void firstLetters() {
        CHECK.part("a text's first letter");
        for (int letter = 0; letter <= 255; letter++) {
            if (letter == 32) {
                reads(with("", letter), 0);
            } else {
                reads(with("", letter), -11, "sel".indexOf(letter) >= 0 ? 1 : 0, 0);
            }
        }
    }

    private static void lettersBehindWord() {
        CHECK.part("behind a word");
        for (int letter = 0; letter <= 255; letter++) {
            int at = letter == 32 || isFigure(letter) ? 2 : 1;
            reads(with("s", letter), -11, at, 0);
        }
    }

    private static void lettersBehindFirstNumber() {
        CHECK.part("behind a first number");
        for (int letter = 0; letter <= 255; letter++) {
            int at = letter == 32 || isFigure(letter) ? 3 : 2;
            reads(with("s1", letter), -11, at, 0);
            // behind a blank a figure begins the second number
            reads(with("s1 ", letter), -11, at + 1, 0);
        }
    }

    private static void lettersBehindSecondNumber() {
        CHECK.part("behind a second number");
        for (int letter = 0; letter <= 255; letter++) {
            if (letter == ';') {
                reads(with("s1 2", letter), 1);
                reads(with("s1 2 ", letter), 1);
            } else {
                reads(with("s1 2", letter), -11, letter == 32 || isFigure(letter) ? 5 : 4, 0);
                reads(with("s1 2 ", letter), -11, letter == 32 ? 6 : 5, 0);
            }
        }
    }

    private static void lettersBehindClause() {
        CHECK.part("behind a clause");
        for (int letter = 0; letter <= 255; letter++) {
            if (letter == 32) {
                reads(with("s1 2;", letter), 1);
            } else {
                reads(with("s1 2;", letter), -11, "sel".indexOf(letter) >= 0 ? 6 : 5, 0);
            }
        }
    }

    /** "a word is one letter" */
    private static void oneLetterWords() {
        CHECK.part("a word is one letter");
        reads("ss1 2;", -11, 1, 0);
        reads("st1 2;", -11, 1, 0);
        reads("s s1 2;", -11, 2, 0);
        reads(TWO + "ee0 1;", -11, 11, 0);
        reads(TWO + "e0 1;ll0 1;", -11, 16, 0);
        reads("s1 2;;", -11, 5, 0);
        reads("s1 2; ;", -11, 6, 0);
        for (String word : new String[] {"S", "E", "L", "r", "t", "d", "f", "k", "m"}) {
            reads(TWO + word + "0 1;", -11, 10, 0);
        }
    }

    /** "blanks (32) may stand anywhere but within NUMBERS" */
    private static void blanksAnywhere() {
        CHECK.part("blanks anywhere");
        String text = "s1 20;s30 4;e0 1;l1 0;";
        for (int at = 0; at <= text.length(); at++) {
            boolean within = at > 0 && at < text.length() && isFigure(text.charAt(at - 1)) && isFigure(text.charAt(at));
            if (!within) {
                for (int n = 1; n <= 4; n++) {
                    reads(text.substring(0, at) + " ".repeat(n) + text.substring(at), 2);
                }
            }
        }
        reads("  s  1  20  ;  s  30  4  ;  e  0  1  ;  l  1  0  ;  ", 2);
    }

    private static void blanksWithinNumbers() {
        CHECK.part("no blanks within numbers");
        reads("s3 0 40;", -11, 5, 0);
        reads("s30 4 0;", -11, 6, 0);
        reads("s3 0 4 0;", -11, 5, 0);
        reads(TWO + "e0 0 1;", -14, 13, 1);
        reads(TWO + "e0 1 1;", -11, 15, 0);
        reads(TWO + "e0 0  1;", -14, 13, 1);
    }

    /** "two NUMBERS side by side need one" */
    private static void numbersSideBySide() {
        CHECK.part("a blank between numbers");
        reads("s1 2;", 1);
        reads("s12;", -11, 3, 0);
        reads("s1;", -11, 2, 0);
        reads("s123;", -12, 1, 0);
        reads("s1234;", -12, 1, 0);
        reads("s1,2;", -11, 2, 0);
        reads(TWO + "e01;", -11, 13, 0);
        reads(TWO + "e 1 0;", 2);
    }

    /** "(the end at the text's length)" */
    private static void textEnds() {
        CHECK.part("the end");
        String clause = "s12 34;";
        for (int n = 1; n < clause.length(); n++) {
            reads(clause.substring(0, n), -11, n, 0);
            reads(clause.substring(0, n) + "  ", -11, n + 2, 0);
        }
        for (String last : new String[] {"e0 1;", "l0 1;"}) {
            String head = last.charAt(0) == 'l' ? TWO + "e0 1;" : TWO;
            for (int n = 1; n < last.length(); n++) {
                reads(head + last.substring(0, n), -11, head.length() + n, 0);
            }
            reads(head + last, 2);
        }
    }

    /** "8 at most", "3 a STATION .. too many (at the word)" */
    private static void stationsTooMany() {
        CHECK.part("eight stations at most");
        for (int n = 0; n <= 8; n++) {
            reads("s5 5;".repeat(n), n);
        }
        for (String ninth : new String[] {"s5 5;", "s", "s;", "sx", "s100 0;", "ss"}) {
            reads(EIGHT + ninth, -13, 40, 0);
            reads(EIGHT + "  " + ninth, -13, 42, 0);
        }
        reads(EIGHT + "e0 1;s5 5;", -13, 45, 0);
        reads(EIGHT + "e0 1;l0 1;", 8);
        reads("s5 5;".repeat(48), -13, 40, 0);
    }

    /** "7 at most", "3 a .. STRETCH .. too many (at the word)" */
    private static void stretchesTooMany() {
        CHECK.part("seven stretches at most");
        for (int n = 0; n <= 7; n++) {
            EightWays x = Check.netOf(ROW_OF_EIGHT.substring(0, EIGHT.length() + 5 * n));
            due("told(1)", x.told(1), n);
        }
        for (String eighth : new String[] {"e0 7;", "e0 1;", "e8 9;", "e", "e;", "ex", "e3 3;"}) {
            reads(ROW_OF_EIGHT + eighth, -13, 75, 0);
            reads(ROW_OF_EIGHT + " l0 7; " + eighth, -13, 82, 0);
        }
    }

    /** "3 at most", "3 a .. LINE too many (at the word)" */
    private static void linesTooMany() {
        CHECK.part("three lines at most");
        String road = TWO + "e0 1;";
        for (int n = 0; n <= 3; n++) {
            EightWays x = Check.netOf(road + "l0 1;".repeat(n));
            due("told(2)", x.told(2), n);
        }
        for (String fourth : new String[] {"l0 1;", "l1 0;", "l9 9;", "l", "l;", "lx", "l1 1;"}) {
            reads(road + "l0 1;".repeat(3) + fourth, -13, 30, 0);
            reads(road + "l0 1;".repeat(3) + "s2 2; e2 1; " + fourth, -13, 42, 0);
        }
    }

    private static void fullNet() {
        CHECK.part("a full net");
        EightWays x = Check.netOf("s99 99;".repeat(8) + ROW_OF_EIGHT.substring(EIGHT.length()) + "l0 7;l7 0;l3 4;");
        int[] want = {8, 7, 3, 0};
        for (int what = 0; what < want.length; what++) {
            due("told(" + what + ")", x.told(what), want[what]);
        }
        due("station(7, 0)", x.station(7, 0), 99);
        due("stretch(6, 1)", x.stretch(6, 1), 7);
        due("stretch(3, 7)", x.stretch(3, 7), 7);
        due("line(2, 1)", x.line(2, 1), 4);
        due("station(8, 0)", x.station(8, 0), UNKNOWN);
        due("stretch(7, 0)", x.stretch(7, 0), UNKNOWN);
        due("line(3, 0)", x.line(3, 0), UNKNOWN);
    }

    /** "2 .. a STATION that there is not (at its first)" */
    private static void stationsThatThereAreNot() {
        CHECK.part("stations that there are not");
        for (int n = 2; n <= 8; n++) {
            String head = "s0 0;".repeat(n);
            int last = n - 1;
            int at = head.length();
            for (String word : new String[] {"e", "l"}) {
                String road = word.equals("l") ? "e0 " + last + ";" : "";
                int from = at + road.length() + 1;
                reads(head + road + word + "0 " + last + ";", n);
                reads(head + road + word + last + " 0;", n);
                reads(head + road + word + "00 0" + last + ";", n);
                reads(head + road + word + "0 " + n + ";", -12, from + 2, 0);
                reads(head + road + word + n + " 0;", -12, from, 0);
                reads(head + road + word + "0" + n + " 0;", -12, from, 0);
                reads(head + road + word + "00 0" + n + ";", -12, from + 3, 0);
                reads(head + road + word + "99 0;", -12, from, 0);
                reads(head + road + word + "0 99;", -12, from + 2, 0);
                reads(head + road + word + "0  1" + last + " ;", -12, from + 3, 0);
            }
        }
        reads("e0 0;", -12, 1, 0);
        reads("l0 0;", -12, 1, 0);
        reads("s1 1;e0 1;", -12, 8, 0);
    }

    /** "(a STRETCH from STATION A to B, told ahead ..)" */
    private static void toldAhead() {
        CHECK.part("told ahead");
        reads("s0 0;e0 1;s1 1;", -12, 8, 0);
        reads("s0 0;e1 0;s1 1;", -12, 6, 0);
        reads("s0 0;s1 1;e0 1;s2 2;e2 1;l2 0;", 3);
        reads("s0 0;s1 1;e0 1;l0 2;s2 2;", -12, 18, 0);
        reads(TWO + "l0 1;e0 1;", -14, 13, 3);
    }

    /** "What has a number has it from 0 on, as it comes." */
    private static void numberedAsTheyCome() {
        CHECK.part("numbers as they come");
        EightWays x = Check.netOf("s10 11;s20 21;e1 0;l0 1;s30 31;e2 0;l1 2;s40 41;");
        int[][] stations = {{10, 11}, {20, 21}, {30, 31}, {40, 41}};
        int[][] stretches = {{1, 0}, {2, 0}};
        int[][] lines = {{0, 1}, {1, 2}};
        for (int i = 0; i < 4; i++) {
            due("station(" + i + ", 0)", x.station(i, 0), stations[i][0]);
            due("station(" + i + ", 1)", x.station(i, 1), stations[i][1]);
        }
        for (int i = 0; i < 2; i++) {
            due("stretch(" + i + ", 0)", x.stretch(i, 0), stretches[i][0]);
            due("stretch(" + i + ", 1)", x.stretch(i, 1), stretches[i][1]);
            due("line(" + i + ", 0)", x.line(i, 0), lines[i][0]);
            due("line(" + i + ", 1)", x.line(i, 1), lines[i][1]);
        }
    }

    /** "FAULTS, at the first letter that has one" */
    private static void firstLetterWithAFault() {
        CHECK.part("the first letter with a fault");
        reads(EIGHT + "sx100", -13, 40, 0);
        reads("s100x", -12, 1, 0);
        reads("s100", -12, 1, 0);
        reads("s100 200;", -12, 1, 0);
        reads("s100;;", -12, 1, 0);
        reads("s1 100", -12, 3, 0);
        reads(TWO + "e0 0", -14, 13, 1);
        reads(TWO + "e0 0x", -14, 13, 1);
        reads(TWO + "e0 0 0;", -14, 13, 1);
        reads(TWO + "e0 0;s100 0;", -14, 13, 1);
        reads(TWO + "l0 1", -14, 13, 3);
        reads(TWO + "l0 1s", -14, 13, 3);
        reads(TWO + "e0 1;e1 0", -14, 18, 2);
        reads(TWO + "e2 2;", -12, 11, 0);
        reads(TWO + "e2 3;", -12, 11, 0);
        reads(TWO + "e2 100;", -12, 11, 0);
        reads(TWO + "e2x", -12, 11, 0);
        reads(TWO + "e2", -12, 11, 0);
        reads(TWO + "e0x2;", -11, 12, 0);
        reads(TWO + "e0 2x", -12, 13, 0);
        reads("x" + EIGHT + "s0 0;", -11, 0, 0);
        reads("s0 0;x" + EIGHT, -11, 5, 0);
    }

    /** "of these the least" */
    private static void leastFaultOfOneLetter() {
        CHECK.part("the least fault of one letter");
        // a number of three figures where none can stand: 1 and 2
        reads("100", -11, 0, 0);
        reads("s1 2 345;", -11, 5, 0);
        reads("s1 2;345", -11, 5, 0);
        // one too many where no word can stand: 1 and 3
        reads(EIGHT.substring(0, 39) + "s0 0;", -11, 39, 0);
        reads(EIGHT + "e0 s", -11, 43, 0);
        reads(ROW_OF_EIGHT.substring(0, 74) + "e0 7;", -11, 74, 0);
        reads(TWO + "e0 1;l0 1;l0 1;l0 1l0 1;", -11, 29, 0);
        // a B of three figures that is A again, a ring, a gap: 2 and 4
        reads(TWO + "e0 000;", -12, 13, 0);
        reads(TWO + "l1 001;", -12, 13, 0);
        reads(TWO + "e0 1;e1 000;", -12, 18, 0);
        reads(TWO + "l0 001;", -12, 13, 0);
    }

    /** "WHY: 1 a STRETCH, a LINE from a STATION to itself", "(at the B)" */
    private static void toItself() {
        CHECK.part("from a station to itself");
        for (int s = 0; s < 8; s++) {
            reads(EIGHT + "e" + s + " " + s + ";", -14, 43, 1);
            reads(EIGHT + "l" + s + " " + s + ";", -14, 43, 1);
        }
        reads(TWO + "e0 1;l1 1;", -14, 18, 1);
        reads(TWO + "e0 1;e1 1;", -14, 18, 1);
        reads(TWO + "e01 1;", -14, 14, 1);
        reads(TWO + "e1   01;", -14, 15, 1);
        reads("s1 1;e0 0;", -14, 8, 1);
        reads("s1 1;l0 0;", -14, 8, 1);
    }

    /** "2 a STRETCH by which one comes from A to B that could be come to already (RING)" */
    private static void ring() {
        CHECK.part("a ring");
        reads(TWO + "e0 1;e0 1;", -14, 18, 2);
        reads(TWO + "e0 1;e1 0;", -14, 18, 2);
        for (int n = 3; n <= 7; n++) {
            String row = "s0 0;".repeat(n) + ROW_OF_EIGHT.substring(EIGHT.length(), EIGHT.length() + 5 * (n - 1));
            reads(row, n);
            reads(row + "e0 " + (n - 1) + ";", -14, row.length() + 3, 2);
            reads(row + "e" + (n - 1) + " 0;", -14, row.length() + 3, 2);
            reads(row + "e" + (n - 1) + "  00;", -14, row.length() + 4, 2);
        }
        // two trees are joined, then no more
        reads("s0 0;".repeat(4) + "e0 1;e2 3;e0 3;", 4);
        reads("s0 0;".repeat(4) + "e0 1;e2 3;e0 3;e1 2;", -14, 38, 2);
        // a line makes no ring
        reads(TWO + "e0 1;l0 1;l1 0;l0 1;", 2);
    }

    /** "3 a LINE between STATIONS that no STRETCHES lead between (GAP)" */
    private static void gap() {
        CHECK.part("a gap");
        reads(TWO + "l0 1;", -14, 13, 3);
        reads(TWO + "l1  00;", -14, 14, 3);
        reads(TWO + "s2 2;e0 1;l0 2;", -14, 23, 3);
        reads(TWO + "s2 2;e0 1;l2 1;", -14, 23, 3);
        reads(TWO + "s2 2;e0 1;l1 0;e1 2;l2 0;", 3);
        reads("s0 0;".repeat(4) + "e0 1;e2 3;l1 2;", -14, 33, 3);
        reads("s0 0;".repeat(4) + "e0 1;e2 3;e0 3;l1 2;", 4);
        EightWays x = Check.netOf(ROW_OF_EIGHT + "l7 0;");
        due("line(0, 2)", x.line(0, 2), 7);
        due("along(0, 6)", x.along(0, 6), 0);
    }

    /** "0: the FAULT is another one, there is none" */
    private static void whyOfOtherFaults() {
        CHECK.part("why, of other faults");
        EightWays x = new EightWays();
        String[] texts = {"x", "s100 1;", EIGHT + "s1 1;", "", "s1 1;", "e0 0;"};
        for (String text : texts) {
            Check.feed(x, "s1 1;e0 0;");
            x.net();
            due("fault(1)", x.fault(1), 1);
            Check.feed(x, text);
            x.net();
            due("fault(1) of '" + text + "'", x.fault(1), 0);
        }
    }

    /** "Of the latest net(): what = 0 the letter of its FAULT (NONE), 1 WHY." */
    private static void faultOfTheLatestNet() {
        CHECK.part("promise 4, the latest net()");
        EightWays x = Check.netOf(TWO + "e0 1;");
        Check.feed(x, TWO + "l0 1;");
        due("fault(0) ahead of net()", x.fault(0), NONE);
        due("net()", x.net(), -14);
        x.feed('s');
        x.fix(0, 3);
        x.undo();
        x.drift(7);
        x.keep(0);
        x.goBack(0);
        due("fault(0)", x.fault(0), 13);
        due("fault(1)", x.fault(1), 3);
        due("net() of 's'", x.net(), -11);
        due("fault(0)", x.fault(0), 1);
        due("fault(1)", x.fault(1), 0);
        Check.feed(x, "x");
        due("net() of 'x'", x.net(), -11);
        due("fault(0): a fault at letter 0 is not none", x.fault(0), 0);
        due("net() of nothing", x.net(), 0);
        due("fault(0)", x.fault(0), NONE);
        for (int what : new int[] {Integer.MIN_VALUE, -1, 2, Integer.MAX_VALUE}) {
            due("fault(" + what + ")", x.fault(what), OUTSIDE);
        }
    }

    /** "THE TEXT (it is empty then, with a FAULT, too)" */
    private static void textIsEmptyThen() {
        CHECK.part("promise 3, the text is empty then");
        EightWays x = new EightWays();
        Check.feed(x, "s1 2;");
        due("net()", x.net(), 1);
        due("told(3)", x.told(3), 0);
        due("feed('s')", x.feed('s'), 1);
        due("net()", x.net(), -11);
        due("told(3)", x.told(3), 0);
        due("told(0)", x.told(0), 1);
        // what was left of it would make this a good clause
        Check.feed(x, "1 2;");
        due("net()", x.net(), -11);
        due("fault(0)", x.fault(0), 0);
        due("net() of nothing", x.net(), 0);
    }

    /** "becomes THE NET (nothing FIXED, WAY 0, OFFSET 1; IMAGES, what could be undone are gone): how many STATIONS" */
    private static void netAnew() {
        CHECK.part("promise 3, a net anew");
        String text = "s10 50;s30 50;s50 90;e0 1;e1 2;l0 2;";
        EightWays x = Check.netOf(text);
        x.keep(0);
        x.keep(1);
        x.fix(0, 3);
        x.fix(1, 5);
        x.count(0, 3);
        x.count(1, 9);
        x.move(0, 1, 2);
        Check.feed(x, text);
        due("net()", x.net(), 3);
        due("all", Snapshot.of(x), Snapshot.of(Check.netOf(text)));
        due("told(12)", x.told(12), 0);
        due("undo()", x.undo(), NOT);
        due("goBack(0)", x.goBack(0), NOT);
        due("goBack(1)", x.goBack(1), NOT);
    }

    /** Nothing of an earlier net is left in a later one. */
    private static void netsOneBehindAnother() {
        CHECK.part("promise 3, nets one behind another");
        String[] nets = {
            "s40 50;s60 50;s20 70;s20 30;s80 70;s80 30;e0 1;e0 2;e0 3;e1 4;e1 5;l2 5;l3 4;l5 2;",
            "s40 50;s60 50;s20 70;s20 30;s80 70;s80 30;e1 0;e2 0;e0 3;e4 1;e1 5;l2 4;l3 5;l0 4;",
            "s40 50;s60 50;s20 70;s20 30;s80 70;s80 30;e0 1;e0 2;e0 3;e1 4;e1 5;l3 1;l2 1;",
            "s50 50;s40 50;s60 50;s20 70;s20 30;s80 70;s80 30;e1 0;e2 0;e1 3;e1 4;e2 5;e2 6;l3 6;l4 5;",
            "s50 50;s40 50;s60 50;s20 70;s20 30;s80 70;s80 30;e1 0;e0 2;e1 3;e1 4;e2 5;e2 6;l3 6;l4 5;",
            "s0 0;s9 0;s9 9;s0 9;s0 1;e0 1;e1 2;e2 3;e3 4;l0 1;",
            "s0 0;s0 9;s0 19;s9 0;e3 0;e2 1;l2 1;", "s3 3;"};
        for (int first = 0; first < nets.length; first++) {
            for (int second = 0; second < nets.length; second++) {
                for (int third = 0; third < nets.length; third++) {
                    EightWays x = Check.netOf(nets[first]);
                    x.told(8);
                    x.told(9);
                    Check.feed(x, nets[second]);
                    x.net();
                    x.drift(3);
                    x.told(8);
                    x.told(9);
                    Check.feed(x, nets[third]);
                    x.net();
                    CHECK.due("nets " + first + " " + second + " " + third, Snapshot.of(x), Snapshot.of(Check.netOf(nets[third])));
                }
            }
        }
    }

    private static void due(String call, String got, String want) {
        CHECK.due(call, got, want);
    }

    /** "-10 less the number of its FAULT (all else is as it was)" */
    private static void netWithFault() {
        CHECK.part("promise 3, a net with a fault");
        String[] texts = {"x", "s1 1;s100 1;", EIGHT + "s1 1;", "s1 1;s2 2;s3 3;e0 1;e2 1;l0 2;e2 2;"};
        for (int number = 1; number <= 4; number++) {
            for (Snapshot.After after : Snapshot.AFTER) {
                EightWays x = changed();
                Check.feed(x, texts[number - 1]);
                due("net()", x.net(), -10 - number);
                EightWays y = changed();
                y.feed('x');
                y.net();
                due("all behind fault " + number, after.of(x).replaceFirst("fault.*", ""), after.of(y).replaceFirst("fault.*", ""));
            }
        }
        EightWays x = changed();
        String before = Snapshot.of(x);
        x.feed('x');
        x.net();
        due("all", Snapshot.of(x).replaceFirst("fault.*", ""), before.replaceFirst("fault.*", ""));
    }

    private static EightWays changed() {
        EightWays x = Check.netOf("s10 50;s30 50;s50 90;e0 1;e1 2;l0 2;");
        x.count(0, 1);
        x.keep(1);
        x.fix(0, 3);
        x.count(1, 4);
        x.move(2, 9, 9);
        return x;
    }
}
