/** The bounds of what is done, undone, drawn by lots and kept, sentence by sentence: the end of part 3 of the terms, promises 10 to 15, 22, 23. */
public final class StateBoundsTest {
    private static final int NONE = -1, NOT = -1000000003;
    private static final String ROW = "s10 50;s30 50;s50 90;e0 1;e1 2;l0 2;";

    private static final Check CHECK = new Check();

    public static void main(String[] args) {
        sixteenAreKept();
        theRingGoesRound();
        eachKindIsUndone();
        changesOfNothingAreUndone();
        whatIsRefusedIsNotUndone();
        whatIsAskedIsNotUndone();
        undoneIsGone();
        undoneWithoutPlan();
        undoneWithoutStations();
        loosened();
        moved();
        counted();
        lotsOfSeedOne();
        lotsOfTheLastSeed();
        lotsOfEachSeedAnew();
        lotsAreForStationsAlone();
        lotsLeaveTheRest();
        imagesKeepAll();
        imagesOfAFullNet();
        imagesAreTwo();
        imagesStayAsKept();
        imagesAreOverwritten();
        imagesLeaveTheText();
        imagesOfNothing();
        imagesAndUndo();
        imagesAreGoneWithTheNet();
        fiveHundredAndTwelveCalls();
        CHECK.end();
    }

    private static void due(String call, long got, long want) {
        CHECK.due(call, got, want);
    }

    /** "(16 at most are kept, the oldest are lost)" */
    private static void sixteenAreKept() {
        CHECK.part("sixteen are kept");
        for (int done : new int[] {0, 1, 15, 16, 17, 18, 31, 32, 33, 48}) {
            EightWays x = Check.netOf(ROW);
            for (int n = 1; n <= done; n++) {
                x.move(0, n, 99 - n);
                due("told(12) behind " + n, x.told(12), Math.min(n, 16));
            }
            for (int left = Math.min(done, 16) - 1; left >= 0; left--) {
                due("undo() of " + done, x.undo(), left);
                due("told(12)", x.told(12), left);
                int then = done > 16 ? done - 16 + left : left;
                due("station(0, 0) of " + done, x.station(0, 0), then == 0 ? 10 : then);
                due("station(0, 1) of " + done, x.station(0, 1), then == 0 ? 50 : 99 - then);
            }
            due("undo() of none", x.undo(), NOT);
            due("told(12)", x.told(12), 0);
            due("station(0, 0)", x.station(0, 0), done > 16 ? done - 16 : 10);
        }
    }

    /** Changes and undoing by turns, more than sixteen in all, never lose what is still kept. */
    private static void theRingGoesRound() {
        CHECK.part("done and undone by turns");
        EightWays x = Check.netOf(ROW);
        int[] at = new int[64];
        at[0] = 10;
        int depth = 0;
        int kept = 0;
        int v = 0;
        for (int round = 0; round < 20; round++) {
            for (int n = 0; n < 3 + round % 3; n++) {
                v = (v + 7) % 100;
                x.move(0, v, 0);
                depth++;
                at[depth % 64] = v;
                kept = Math.min(16, kept + 1);
            }
            for (int n = 0; n < 2 && kept > 0; n++) {
                kept--;
                due("undo()", x.undo(), kept);
                depth--;
                due("station(0, 0)", x.station(0, 0), at[depth % 64]);
            }
        }
    }

    /** "the latest of fix(), loose(), count(), move(), drift()" */
    private static void eachKindIsUndone() {
        CHECK.part("each kind is undone");
        EightWays x = Check.netOf(ROW);
        String[] was = new String[9];
        for (int n = 0; n < 8; n++) {
            was[n] = all(x);
            change(x, n);
            due("told(12)", x.told(12), n + 1);
        }
        for (int n = 7; n >= 0; n--) {
            due("undo()", x.undo(), n);
            CHECK.due("what is so ahead of change " + n, all(x), was[n]);
        }
        due("undo()", x.undo(), NOT);
    }

    private static int change(EightWays x, int n) {
        switch (n) {
            case 0: return x.fix(0, 3);
            case 1: return x.fix(0, 5);
            case 2: return x.count(0, 1);
            case 3: return x.move(1, 99, 0);
            case 4: return x.count(1, 9);
            case 5: return x.loose(0);
            case 6: return x.drift(12345);
            default: return x.fix(1, 7);
        }
    }

    /** What changes can change. */
    private static String all(EightWays x) {
        StringBuilder text = new StringBuilder();
        for (int s = 0; s < x.told(0); s++) {
            text.append(x.station(s, 0)).append(' ').append(x.station(s, 1)).append(' ');
        }
        for (int e = 0; e < x.told(1); e++) {
            text.append(x.stretch(e, 6)).append(' ').append(x.stretch(e, 3)).append(' ');
        }
        return text.append(x.told(4)).append(' ').append(x.told(5)).append(' ').append(x.told(6)).append('\n').toString();
    }

    /** "that was not refused": one that leaves all as it was counts too. */
    private static void changesOfNothingAreUndone() {
        CHECK.part("changes that change nothing");
        EightWays x = Check.netOf(ROW);
        x.move(0, 10, 50);
        x.count(0, 0);
        x.count(1, 1);
        due("told(12)", x.told(12), 3);
        x.fix(1, 1);
        x.fix(1, 1);
        due("told(12)", x.told(12), 5);
        x.drift(9);
        x.drift(9);
        due("undo()", x.undo(), 6);
        due("undo()", x.undo(), 5);
        due("station(0, 0)", x.station(0, 0), 10);
        due("undo()", x.undo(), 4);
        due("stretch(1, 6)", x.stretch(1, 6), 1);
        due("undo()", x.undo(), 3);
        due("stretch(1, 6)", x.stretch(1, 6), NONE);
    }

    private static void whatIsRefusedIsNotUndone() {
        CHECK.part("what is refused is not undone");
        EightWays x = Check.netOf(ROW);
        x.fix(0, 2);
        x.fix(0, 8);
        x.fix(2, 0);
        x.loose(1);
        x.count(0, 4);
        x.count(1, 10);
        x.move(0, 100, 0);
        x.drift(0);
        x.keep(2);
        x.goBack(0);
        x.goBack(2);
        due("told(12)", x.told(12), 1);
        due("undo()", x.undo(), 0);
        due("told(10)", x.told(10), 0);
        due("undo()", x.undo(), NOT);
    }

    private static void whatIsAskedIsNotUndone() {
        CHECK.part("what is asked, fed is not undone");
        EightWays x = Check.netOf(ROW);
        x.fix(0, 2);
        x.would(0, 3);
        x.plans();
        x.order(0, 0);
        x.crossings(0);
        x.bend(0, 0);
        x.feed('s');
        x.net();
        due("net() had a fault, told(12)", x.told(12), 1);
        due("undo()", x.undo(), 0);
        due("stretch(0, 6)", x.stretch(0, 6), NONE);
    }

    /** What was undone can't be undone once more, nor done anew. */
    private static void undoneIsGone() {
        CHECK.part("undone is gone");
        EightWays x = Check.netOf(ROW);
        x.move(0, 1, 0);
        x.move(0, 2, 0);
        x.move(0, 3, 0);
        due("undo()", x.undo(), 2);
        x.move(0, 4, 0);
        due("told(12)", x.told(12), 3);
        due("undo()", x.undo(), 2);
        due("station(0, 0)", x.station(0, 0), 2);
        due("undo()", x.undo(), 1);
        due("station(0, 0)", x.station(0, 0), 1);
        due("undo()", x.undo(), 0);
        due("station(0, 0)", x.station(0, 0), 10);
    }

    private static void undoneWithoutPlan() {
        CHECK.part("undone where there is no plan");
        EightWays x = Check.netOf(ROW);
        int cost = x.told(6);
        x.fix(0, 0);
        due("fix(1, 4)", x.fix(1, 4), NONE);
        due("loose(0)", x.loose(0), 0);
        due("undo()", x.undo(), 2);
        due("told(6)", x.told(6), NONE);
        due("undo()", x.undo(), 1);
        due("undo()", x.undo(), 0);
        due("told(6)", x.told(6), cost);
    }

    private static void undoneWithoutStations() {
        CHECK.part("undone without stations");
        EightWays x = new EightWays();
        due("count(0, 3)", x.count(0, 3), 0);
        due("count(1, 0)", x.count(1, 0), 0);
        due("undo()", x.undo(), 1);
        due("told(5)", x.told(5), 1);
        due("told(4)", x.told(4), 3);
        due("undo()", x.undo(), 0);
        due("told(4)", x.told(4), 0);
        due("undo()", x.undo(), NOT);
    }

    /** "A STRETCH is FIXED no more: the DIRECTION. UNKNOWN, NOT: it is not." */
    private static void loosened() {
        CHECK.part("promise 11, loose");
        EightWays x = Check.netOf(ROW);
        for (int d = 0; d <= 7; d++) {
            x.fix(0, d);
            due("loose(0)", x.loose(0), d);
            due("loose(0) once more", x.loose(0), NOT);
            due("stretch(0, 6)", x.stretch(0, 6), NONE);
            due("loose(1)", x.loose(1), NOT);
        }
        x.fix(1, 7);
        x.undo();
        due("loose(1) undone", x.loose(1), NOT);
        x.fix(1, 0);
        x.loose(1);
        x.undo();
        due("loose(1) anew", x.loose(1), 0);
    }

    /** "A STATION truly lies at x, y (0 .. 99)" */
    private static void moved() {
        CHECK.part("promise 13, move");
        EightWays x = Check.netOf(ROW);
        int[][] corners = {{0, 0}, {99, 0}, {0, 99}, {99, 99}, {50, 1}};
        for (int s = 0; s < 3; s++) {
            for (int[] c : corners) {
                int cost = x.move(s, c[0], c[1]);
                due("told(6)", x.told(6), cost);
                due("station(" + s + ", 0)", x.station(s, 0), c[0]);
                due("station(" + s + ", 1)", x.station(s, 1), c[1]);
            }
        }
        // all stations at one place: each stretch truly goes 0
        for (int s = 0; s < 3; s++) {
            x.move(s, 7, 7);
        }
        due("told(6)", x.told(6), 0);
        due("stretch(0, 2)", x.stretch(0, 2), 0);
        due("stretch(1, 2)", x.stretch(1, 2), 0);
    }

    /** "WAY (what = 0; 0 .. 3), OFFSET (1; 0 .. 9) becomes v" */
    private static void counted() {
        CHECK.part("promise 12, count");
        EightWays x = Check.netOf(ROW);
        for (int v = 0; v <= 9; v++) {
            due("count(1, " + v + ")", x.count(1, v), x.told(6));
            due("told(5)", x.told(5), v);
            due("told(4)", x.told(4), 0);
        }
        for (int v = 0; v <= 3; v++) {
            due("count(0, " + v + ")", x.count(0, v), x.told(6));
            due("told(4)", x.told(4), v);
            due("told(5)", x.told(5), 9);
        }
    }

    private static void liesAt(EightWays x, int... want) {
        for (int s = 0; s < want.length / 2; s++) {
            due("station(" + s + ", 0)", x.station(s, 0), want[2 * s]);
            due("station(" + s + ", 1)", x.station(s, 1), want[2 * s + 1]);
        }
    }

    /** "X .. becomes what is left of (X times 16807) by 2147483647 ahead of each number wanted": 16807, 282475249, 1622650073, .. */
    private static void lotsOfSeedOne() {
        CHECK.part("promise 14, seed 1");
        EightWays x = Check.netOf("s5 5;".repeat(8));
        due("drift(1)", x.drift(1), 0);
        liesAt(x, 7, 49, 73, 58, 30, 72, 44, 78, 23, 9, 40, 65, 92, 42, 87, 3);
    }

    private static void lotsOfTheLastSeed() {
        CHECK.part("promise 14, seed 999999");
        EightWays x = Check.netOf("s5 5;".repeat(8));
        due("drift(999999)", x.drift(999999), 0);
        long lot = 999999;
        int[] want = new int[16];
        for (int i = 0; i < 16; i++) {
            lot = lot * 16807 % 2147483647;
            want[i] = (int) (lot % 100);
        }
        // 999999 times 16807 is 16806983193: 1774597664 are left
        due("the first", want[0], 64);
        liesAt(x, want);
    }

    private static void lotsOfEachSeedAnew() {
        CHECK.part("promise 14, each seed anew");
        EightWays x = Check.netOf("s5 5;s5 5;");
        x.drift(2);
        liesAt(x, 14, 98, 99, 16);
        x.drift(1);
        liesAt(x, 7, 49, 73, 58);
        x.drift(2);
        liesAt(x, 14, 98, 99, 16);
        x.undo();
        liesAt(x, 7, 49, 73, 58);
        x.undo();
        liesAt(x, 14, 98, 99, 16);
        x.undo();
        liesAt(x, 5, 5, 5, 5);
    }

    private static void lotsAreForStationsAlone() {
        CHECK.part("promise 14, one station");
        EightWays x = Check.netOf("s5 5;");
        due("drift(1)", x.drift(1), 0);
        liesAt(x, 7, 49);
        EightWays y = Check.netOf("s5 5;s6 6;s7 7;e0 1;e2 1;l0 2;");
        int cost = y.drift(1);
        liesAt(y, 7, 49, 73, 58, 30, 72);
        due("told(6)", y.told(6), cost);
        // by 66 and 9, by 43 and -14
        due("stretch(0, 2)", y.stretch(0, 2), 0);
        due("stretch(1, 2)", y.stretch(1, 2), 0);
    }

    private static void lotsLeaveTheRest() {
        CHECK.part("promise 14, the rest stays");
        EightWays x = Check.netOf(ROW);
        x.fix(0, 6);
        x.count(0, 2);
        x.count(1, 8);
        x.keep(1);
        x.drift(500);
        due("told(4)", x.told(4), 2);
        due("told(5)", x.told(5), 8);
        due("stretch(0, 6)", x.stretch(0, 6), 6);
        due("told(10)", x.told(10), 1);
        due("told(12)", x.told(12), 1);
        x.goBack(1);
        liesAt(x, 10, 50, 30, 50, 50, 90);
    }

    /** "IMAGES 0, 1 keep where STATIONS truly lie, what is FIXED, the WAY, OFFSET." */
    private static void imagesKeepAll() {
        CHECK.part("images keep all");
        for (int i = 0; i <= 1; i++) {
            EightWays x = Check.netOf(ROW);
            x.fix(1, 6);
            x.count(0, 3);
            x.count(1, 7);
            x.move(2, 90, 10);
            String was = all(x);
            int cost = x.told(6);
            due("keep(" + i + ")", x.keep(i), 1);
            CHECK.due("what is so behind keep()", all(x), was);
            x.loose(1);
            x.fix(0, 1);
            x.count(0, 0);
            x.count(1, 0);
            x.drift(4);
            due("goBack(" + i + ")", x.goBack(i), cost);
            CHECK.due("what is so behind goBack()", all(x), was);
        }
    }

    /** Eight stations, seven stretches fixed: all of them are kept, and undone. */
    private static void imagesOfAFullNet() {
        CHECK.part("images of a full net");
        EightWays x = Check.netOf("s0 0;s10 0;s20 0;s30 0;s40 9;s50 0;s60 0;s70 0;e0 1;e1 2;e2 3;e3 4;e4 5;e5 6;e6 7;l0 7;l7 1;l2 5;");
        x.keep(0);
        for (int e = 0; e < 7; e++) {
            x.fix(e, (e + 6) % 8);
        }
        x.drift(1);
        liesAt(x, 7, 49, 73, 58, 30, 72, 44, 78, 23, 9, 40, 65, 92, 42, 87, 3);
        due("keep(1)", x.keep(1), 1);
        x.drift(2);
        for (int e = 0; e < 7; e++) {
            due("loose(" + e + ")", x.loose(e), (e + 6) % 8);
        }
        due("told(10)", x.told(10), 0);
        for (int left = 7; left >= 0; left--) {
            due("undo()", x.undo(), left);
        }
        due("told(10)", x.told(10), 127);
        liesAt(x, 7, 49, 73, 58, 30, 72, 44, 78, 23, 9, 40, 65, 92, 42, 87, 3);
        x.goBack(0);
        due("told(10)", x.told(10), 0);
        liesAt(x, 0, 0, 10, 0, 20, 0, 30, 0, 40, 9, 50, 0, 60, 0, 70, 0);
        x.goBack(1);
        for (int e = 0; e < 7; e++) {
            due("stretch(" + e + ", 6)", x.stretch(e, 6), (e + 6) % 8);
        }
        liesAt(x, 7, 49, 73, 58, 30, 72, 44, 78, 23, 9, 40, 65, 92, 42, 87, 3);
    }

    private static void imagesAreTwo() {
        CHECK.part("two images");
        EightWays x = Check.netOf(ROW);
        x.move(0, 1, 1);
        x.keep(1);
        due("goBack(0)", x.goBack(0), NOT);
        x.move(0, 2, 2);
        x.keep(0);
        x.move(0, 3, 3);
        x.goBack(1);
        due("station(0, 0)", x.station(0, 0), 1);
        x.goBack(0);
        due("station(0, 0)", x.station(0, 0), 2);
        x.goBack(1);
        due("station(0, 0)", x.station(0, 0), 1);
    }

    private static void imagesStayAsKept() {
        CHECK.part("images stay as kept");
        EightWays x = Check.netOf(ROW);
        x.keep(0);
        for (int n = 0; n < 20; n++) {
            x.move(0, n, n);
            x.fix(1, n % 8);
            if (n % 3 == 0) {
                x.undo();
            }
            if (n % 5 == 0) {
                x.goBack(0);
                due("station(0, 0)", x.station(0, 0), 10);
                due("stretch(1, 6)", x.stretch(1, 6), NONE);
            }
        }
    }

    private static void imagesAreOverwritten() {
        CHECK.part("the latest image");
        EightWays x = Check.netOf(ROW);
        for (int n = 0; n < 4; n++) {
            x.count(1, n);
            due("keep(0)", x.keep(0), 1);
            x.count(1, 9);
            x.goBack(0);
            due("told(5)", x.told(5), n);
        }
    }

    private static void imagesLeaveTheText() {
        CHECK.part("images leave the text");
        EightWays x = Check.netOf(ROW);
        x.keep(0);
        Check.feed(x, "s1 2");
        x.goBack(0);
        due("told(3)", x.told(3), 4);
        x.keep(0);
        due("feed(';')", x.feed(';'), 5);
        due("net()", x.net(), 1);
        due("station(0, 1)", x.station(0, 1), 2);
    }

    private static void imagesOfNothing() {
        CHECK.part("images without stations");
        EightWays x = new EightWays();
        x.count(0, 2);
        due("keep(1)", x.keep(1), 1);
        x.count(0, 1);
        due("goBack(1)", x.goBack(1), 0);
        due("told(4)", x.told(4), 2);
        due("goBack(0)", x.goBack(0), NOT);
    }

    /** "(nothing can be undone then)" */
    private static void imagesAndUndo() {
        CHECK.part("nothing to undo behind an image");
        EightWays x = Check.netOf(ROW);
        for (int n = 1; n <= 20; n++) {
            x.move(0, n, n);
        }
        due("keep(0)", x.keep(0), 1);
        due("told(12)", x.told(12), 0);
        due("undo()", x.undo(), NOT);
        due("station(0, 0)", x.station(0, 0), 20);
        x.move(0, 30, 30);
        x.move(0, 40, 40);
        due("told(12)", x.told(12), 2);
        x.goBack(0);
        due("told(12)", x.told(12), 0);
        due("undo()", x.undo(), NOT);
        due("station(0, 0)", x.station(0, 0), 20);
        for (int n = 1; n <= 17; n++) {
            x.move(0, 50 + n, 0);
        }
        due("told(12)", x.told(12), 16);
        for (int left = 15; left >= 0; left--) {
            due("undo()", x.undo(), left);
        }
        due("station(0, 0)", x.station(0, 0), 51);
        due("undo()", x.undo(), NOT);
    }

    private static void imagesAreGoneWithTheNet() {
        CHECK.part("images are gone with the net");
        EightWays x = Check.netOf(ROW);
        x.keep(0);
        x.keep(1);
        x.feed('x');
        x.net();
        due("goBack(0) behind a fault", x.goBack(0) == NOT ? 1 : 0, 0);
        due("goBack(1) behind a fault", x.goBack(1) == NOT ? 1 : 0, 0);
        Check.feed(x, ROW);
        x.net();
        due("goBack(0)", x.goBack(0), NOT);
        due("goBack(1)", x.goBack(1), NOT);
        x.keep(1);
        due("goBack(0)", x.goBack(0), NOT);
        x.net();
        due("goBack(1)", x.goBack(1), NOT);
    }

    /** "An object is used for at most 512 calls after it has been made" */
    private static void fiveHundredAndTwelveCalls() {
        CHECK.part("the 512th call");
        EightWays x = new EightWays();
        int calls = 0;
        for (; calls < 240; calls++) {
            due("feed(32)", x.feed(32), calls + 1);
        }
        due("net()", x.net(), 0);
        calls++;
        for (int i = 0; i < ROW.length(); i++, calls++) {
            x.feed(ROW.charAt(i));
        }
        due("net()", x.net(), 3);
        calls++;
        for (; calls < 509; calls++) {
            x.drift(calls);
        }
        due("told(12)", x.told(12), 16);
        x.drift(1);
        due("station(0, 1)", x.station(0, 1), 49);
    }
}
