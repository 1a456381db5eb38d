/** Each promise by itself: ordinary inputs, the edges that the document names, wrong inputs. */
public final class PromisesTest {
    private static final int NONE = -1, UNKNOWN = -1000000001, OUTSIDE = -1000000002, NOT = -1000000003, FULL = -1000000004;

    /** A trunk 0 - 1 with forks at both ends; stretches 0 .. 4 truly go in 0, 3, 5, 1, 7. */
    private static final String FORKS = "s40 50;s60 50;s20 70;s20 30;s80 70;s80 30;e0 1;e0 2;e0 3;e1 4;e1 5;";
    /** Round a square, back to where it began: 0, 2, 4, 6. */
    private static final String SQUARE = "s0 0;s9 0;s9 9;s0 9;s0 1;e0 1;e1 2;e2 3;e3 4;";

    private static final Check CHECK = new Check();

    public static void main(String[] args) {
        newObject();
        feed();
        netTexts();
        netChanges();
        fault();
        told();
        station();
        stretch();
        trueDirections();
        line();
        along();
        fix();
        loose();
        count();
        move();
        drift();
        undo();
        bend();
        would();
        plans();
        order();
        orderOfThree();
        crossings();
        cross();
        keep();
        goBack();
        CHECK.end();
    }

    private static void due(String call, long got, long want) {
        CHECK.due(call, got, want);
    }

    private static void toldIs(EightWays x, int... want) {
        for (int what = 0; what < want.length; what++) {
            due("told(" + what + ")", x.told(what), want[what]);
        }
    }

    private static void newObject() {
        CHECK.part("promise 1");
        EightWays x = new EightWays();
        toldIs(x, 0, 0, 0, 0, 0, 1, 0, 0, 0, 0, 0, 0, 0);
        due("plans()", x.plans(), 1);
        due("station(0, 0)", x.station(0, 0), UNKNOWN);
        due("stretch(0, 0)", x.stretch(0, 0), UNKNOWN);
        due("line(0, 0)", x.line(0, 0), UNKNOWN);
        due("undo()", x.undo(), NOT);
        due("goBack(0)", x.goBack(0), NOT);
        due("fault(0)", x.fault(0), NONE);
        due("fault(1)", x.fault(1), 0);
    }

    private static void feed() {
        CHECK.part("promise 2");
        EightWays x = new EightWays();
        due("feed(-1)", x.feed(-1), OUTSIDE);
        due("feed(256)", x.feed(256), OUTSIDE);
        due("told(3)", x.told(3), 0);
        due("feed(0)", x.feed(0), 1);
        due("feed(255)", x.feed(255), 2);
        for (int n = 3; n <= 240; n++) {
            due("feed(32)", x.feed(32), n);
        }
        due("feed(32) full", x.feed(32), FULL);
        due("feed(256) full", x.feed(256), OUTSIDE);
        due("told(3)", x.told(3), 240);
        due("net()", x.net(), -11);
        due("told(3)", x.told(3), 0);
        due("feed(32)", x.feed(32), 1);
    }

    private static void reads(String text, int answer, int at, int why) {
        CHECK.reads(text, answer, at, why);
    }

    private static void netTexts() {
        CHECK.part("promise 3");
        String two = "s0 0;s1 1;";
        String eight = "s0 0;".repeat(8);
        reads("", 0, NONE, 0);
        reads("   ", 0, NONE, 0);
        reads("s1 2;", 1, NONE, 0);
        reads("  s  1   2  ;  ", 1, NONE, 0);
        reads("s09 99;", 1, NONE, 0);
        reads(two + "e00 01;l1 0;", 2, NONE, 0);
        reads(eight, 8, NONE, 0);
        reads("s", -11, 1, 0);
        reads("s1", -11, 2, 0);
        reads("s1 2", -11, 4, 0);
        reads("s1 2  ", -11, 6, 0);
        reads("s1;", -11, 2, 0);
        reads("s1 2 3;", -11, 5, 0);
        reads("s1 2 345;", -11, 5, 0);
        reads("s12;", -11, 3, 0);
        reads("s1,2;", -11, 2, 0);
        reads("s-1 2;", -11, 1, 0);
        reads("ss1 2;", -11, 1, 0);
        reads("S1 2;", -11, 0, 0);
        reads("1", -11, 0, 0);
        reads(";", -11, 0, 0);
        reads("s1 2;;", -11, 5, 0);
        reads("s1 2;\t", -11, 5, 0);
        reads("s1 2;\u00a0", -11, 5, 0);
        reads("s1000 2;", -12, 1, 0);
        reads("s123", -12, 1, 0);
        reads("s 1 200;", -12, 4, 0);
        reads("s1 000;", -12, 3, 0);
        reads("e0 1;" + two, -12, 1, 0);
        reads(two + "e2 x", -12, 11, 0);
        reads(two + "e0 2;", -12, 13, 0);
        reads(two + "e0 001;", -12, 13, 0);
        reads(two + "e0x1;", -11, 12, 0);
        reads(two + "l2 0;", -12, 11, 0);
        reads(two + "l0 2;", -12, 13, 0);
        reads(eight + " s0 0;", -13, 41, 0);
        reads(eight + "sx", -13, 40, 0);
        reads(two + "e0 1;l0 1;l0 1;l0 1;l9", -13, 30, 0);
        reads(eight + "e0 1;e0 2;e0 3;e0 4;e0 5;e0 6;e0 7;e0 0;", -13, 75, 0);
        reads(two + "e0 0;", -14, 13, 1);
        reads(two + "e0 00", -14, 13, 1);
        reads(two + "l1 1;", -14, 13, 1);
        reads(two + "e0 1;e1 0;", -14, 18, 2);
        reads(two + "s2 2;e0 1;e1 2;e2 0;", -14, 28, 2);
        reads(two + "l0 1;", -14, 13, 3);
        reads(two + "l0 1;e0 1;", -14, 13, 3);
        reads(two + "s2 2;e0 1;l0 2;", -14, 23, 3);
        reads(two + "l0  1 x", -14, 14, 3);
    }

    private static void netChanges() {
        CHECK.part("promise 3, changes");
        EightWays x = Check.netOf(SQUARE);
        x.count(0, 2);
        x.count(1, 5);
        x.fix(1, 3);
        x.keep(1);
        x.move(0, 7, 7);
        Check.feed(x, "s0 0;e0 0;");
        due("net()", x.net(), -14);
        toldIs(x, 5, 4, 0, 0, 2, 5);
        due("told(10)", x.told(10), 2);
        due("told(12)", x.told(12), 1);
        due("station(0, 0)", x.station(0, 0), 7);
        due("undo()", x.undo(), 0);
        due("goBack(1)", x.goBack(1), 5);
        x.move(0, 7, 7);
        Check.feed(x, "s3 4;s5 6;e0 1;");
        due("net()", x.net(), 2);
        toldIs(x, 2, 1, 0, 0, 0, 1, 0, 0, 1, 0, 0, 2, 0);
        due("station(0, 0)", x.station(0, 0), 3);
        due("stretch(0, 6)", x.stretch(0, 6), NONE);
        due("undo()", x.undo(), NOT);
        due("goBack(1)", x.goBack(1), NOT);
        due("fault(0)", x.fault(0), NONE);
        due("net() of nothing", x.net(), 0);
        due("told(0)", x.told(0), 0);
    }

    private static void fault() {
        CHECK.part("promise 4");
        EightWays x = new EightWays();
        due("fault(2)", x.fault(2), OUTSIDE);
        due("fault(-1)", x.fault(-1), OUTSIDE);
        Check.feed(x, "s1 1;e0 0;");
        due("net()", x.net(), -14);
        Check.feed(x, "s1");
        due("fault(0)", x.fault(0), 8);
        due("fault(1)", x.fault(1), 1);
        due("net()", x.net(), -11);
        due("fault(0)", x.fault(0), 2);
        due("fault(1)", x.fault(1), 0);
        due("net()", x.net(), 0);
        due("fault(0)", x.fault(0), NONE);
    }

    private static void told() {
        CHECK.part("promise 5");
        EightWays x = Check.netOf(FORKS + "l2 5;l3 4;");
        x.feed('s');
        toldIs(x, 6, 5, 2, 1, 0, 1, 4, 4, 5, 1, 0, 6, 0);
        x.fix(4, 7);
        x.fix(0, 0);
        x.count(0, 3);
        x.count(1, 2);
        toldIs(x, 6, 5, 2, 1, 3, 2, 4, 4, 5, 1, 17, 6, 4);
        x.fix(3, 7);
        toldIs(x, 6, 5, 2, 1, 3, 2, NONE, NONE, NONE, NONE, 25, NONE, 5);
        due("told(13)", x.told(13), OUTSIDE);
        due("told(-1)", x.told(-1), OUTSIDE);
        EightWays square = Check.netOf(SQUARE);
        due("told(8)", square.told(8), 5);
    }

    private static void stationIs(EightWays x, int s, int... want) {
        for (int what = 0; what < want.length; what++) {
            due("station(" + s + ", " + what + ")", x.station(s, what), want[what]);
        }
    }

    private static void station() {
        CHECK.part("promise 6");
        EightWays x = Check.netOf(SQUARE);
        stationIs(x, 0, 0, 0, 0, 1, 0, 0, 3);
        stationIs(x, 1, 9, 0, 0, 2, 1, 0, 0);
        stationIs(x, 2, 9, 9, 0, 2, 1, 1, 0);
        stationIs(x, 3, 0, 9, 0, 2, 0, 1, 1);
        stationIs(x, 4, 0, 1, 0, 1, 0, -1, 0);
        due("station(5, 0)", x.station(5, 0), UNKNOWN);
        due("station(-1, 9)", x.station(-1, 9), UNKNOWN);
        due("station(0, 7)", x.station(0, 7), OUTSIDE);
        due("station(0, -1)", x.station(0, -1), OUTSIDE);
        EightWays apart = Check.netOf("s5 5;s9 9;s9 9;s7 7;e3 1;");
        stationIs(apart, 0, 5, 5, 0, 0, 0, 0, 0);
        stationIs(apart, 1, 9, 9, 1, 1, 0, 0, 0);
        stationIs(apart, 2, 9, 9, 2, 0, 0, 0, 0);
        stationIs(apart, 3, 7, 7, 1, 1, -1, -1, 0);
        apart.fix(0, 2);
        stationIs(apart, 3, 7, 7, 1, 1, 0, -1, 0);
        x.fix(0, 0);
        x.fix(1, 4);
        stationIs(x, 1, 9, 0, 0, 2, -99, -99, NONE);
    }

    private static void stretchIs(EightWays x, int e, int... want) {
        for (int what = 0; what < want.length; what++) {
            due("stretch(" + e + ", " + what + ")", x.stretch(e, what), want[what]);
        }
    }

    private static void stretch() {
        CHECK.part("promise 7");
        EightWays x = Check.netOf(FORKS + "l2 5;l3 4;l0 1;");
        stretchIs(x, 0, 0, 1, 0, 0, 0, 1, NONE, 7);
        stretchIs(x, 1, 0, 2, 3, 3, 0, 1, NONE, 1);
        stretchIs(x, 4, 1, 5, 7, 7, 0, 1, NONE, 1);
        x.fix(0, 7);
        stretchIs(x, 0, 0, 1, 0, 7, 1, 1, 7, 7);
        x.fix(0, 4);
        stretchIs(x, 0, 0, 1, 0, 4, 4, 1, 4, 7);
        x.fix(1, 4);
        stretchIs(x, 0, 0, 1, 0, NONE, NONE, NONE, 4, 7);
        due("stretch(5, 0)", x.stretch(5, 0), UNKNOWN);
        due("stretch(-1, 8)", x.stretch(-1, 8), UNKNOWN);
        due("stretch(0, 8)", x.stretch(0, 8), OUTSIDE);
        due("stretch(0, -1)", x.stretch(0, -1), OUTSIDE);
        EightWays square = Check.netOf(SQUARE);
        stretchIs(square, 2, 2, 3, 4, 4, 0, 1, NONE, 0);
        stretchIs(square, 3, 3, 4, 6, 6, 0, 2, NONE, 0);
        // two that truly go one way: the first stays, the second goes one more
        EightWays like = Check.netOf("s0 50;s90 50;s90 51;e0 1;e0 2;");
        due("stretch(0, 3)", like.stretch(0, 3), 0);
        due("stretch(1, 3)", like.stretch(1, 3), 1);
        due("told(6)", like.told(6), 1);
        // one more is taken, so the third goes one less
        EightWays three = Check.netOf("s0 50;s90 50;s90 51;s90 52;e0 1;e0 2;e0 3;");
        due("stretch(1, 3)", three.stretch(1, 3), 1);
        due("stretch(2, 3)", three.stretch(2, 3), 7);
    }

    private static void trueDirections() {
        CHECK.part("promise 7, TRUE");
        EightWays x = Check.netOf("s50 50;s50 50;e0 1;");
        int[][] to = {
            {50, 50, 0}, {51, 50, 0}, {51, 51, 1}, {50, 51, 2}, {49, 51, 3}, {49, 50, 4}, {49, 49, 5}, {50, 49, 6}, {51, 49, 7},
            {62, 55, 1}, {62, 54, 0}, {63, 55, 0}, {55, 62, 1}, {54, 62, 2}, {45, 62, 3}, {46, 62, 2}, {38, 55, 3}, {38, 54, 4},
            {38, 45, 5}, {38, 46, 4}, {45, 38, 5}, {46, 38, 6}, {55, 38, 7}, {54, 38, 6}, {62, 45, 7}, {62, 46, 0}};
        for (int[] t : to) {
            x.move(1, t[0], t[1]);
            due("stretch(0, 2) to " + t[0] + " " + t[1], x.stretch(0, 2), t[2]);
        }
    }

    private static void line() {
        CHECK.part("promise 8");
        EightWays x = Check.netOf(FORKS + "l2 5;l3 0;");
        // the trunk goes 7, so that the line is straight
        int[][] want = {{2, 5, 3, 0}, {3, 0, 1, 0}};
        for (int l = 0; l < 2; l++) {
            for (int what = 0; what < 4; what++) {
                due("line(" + l + ", " + what + ")", x.line(l, what), want[l][what]);
            }
        }
        x.fix(0, 2);
        due("line(0, 3)", x.line(0, 3), 6);
        x.count(0, 1);
        due("line(0, 3)", x.line(0, 3), 8);
        x.fix(1, 3);
        x.fix(4, 7);
        due("line(0, 3)", x.line(0, 3), 18);
        x.fix(1, 2);
        due("line(0, 3)", x.line(0, 3), NONE);
        due("line(2, 0)", x.line(2, 0), UNKNOWN);
        due("line(-1, 4)", x.line(-1, 4), UNKNOWN);
        due("line(0, 4)", x.line(0, 4), OUTSIDE);
        due("line(0, -1)", x.line(0, -1), OUTSIDE);
    }

    private static void along() {
        CHECK.part("promise 9");
        EightWays x = Check.netOf(FORKS + "l2 5;l4 3;");
        int[][] want = {{1, 0, 4, NONE}, {3, 0, 2, NONE}};
        for (int l = 0; l < 2; l++) {
            for (int k = 0; k < 4; k++) {
                due("along(" + l + ", " + k + ")", x.along(l, k), want[l][k]);
            }
        }
        due("along(0, far)", x.along(0, Integer.MAX_VALUE), NONE);
        due("along(2, -1)", x.along(2, -1), UNKNOWN);
        due("along(-1, 0)", x.along(-1, 0), UNKNOWN);
        due("along(0, -1)", x.along(0, -1), OUTSIDE);
    }

    private static void fix() {
        CHECK.part("promise 10");
        EightWays x = Check.netOf(SQUARE);
        due("fix(1, 6)", x.fix(1, 6), 4);
        due("told(10)", x.told(10), 2);
        due("fix(1, 3)", x.fix(1, 3), 1);
        due("stretch(1, 6)", x.stretch(1, 6), 3);
        due("fix(1, 4)", x.fix(1, 4), 3);
        due("fix(0, 0)", x.fix(0, 0), NONE);
        due("told(12)", x.told(12), 4);
        due("fix(4, 8)", x.fix(4, 8), UNKNOWN);
        due("fix(-1, 0)", x.fix(-1, 0), UNKNOWN);
        due("fix(0, 8)", x.fix(0, 8), OUTSIDE);
        due("fix(0, -1)", x.fix(0, -1), OUTSIDE);
        due("told(12)", x.told(12), 4);
        due("told(10)", x.told(10), 3);
    }

    private static void loose() {
        CHECK.part("promise 11");
        EightWays x = Check.netOf(SQUARE);
        due("loose(0)", x.loose(0), NOT);
        x.fix(0, 6);
        x.fix(1, 0);
        // stretch 2 can't go back along stretch 1: one more
        due("told(6)", x.told(6), 5);
        due("loose(0)", x.loose(0), 6);
        due("told(6)", x.told(6), 3);
        due("told(10)", x.told(10), 2);
        due("loose(0)", x.loose(0), NOT);
        due("loose(1)", x.loose(1), 0);
        due("told(6)", x.told(6), 0);
        due("told(12)", x.told(12), 4);
        due("loose(4)", x.loose(4), UNKNOWN);
        due("loose(-1)", x.loose(-1), UNKNOWN);
    }

    private static void count() {
        CHECK.part("promise 12");
        EightWays x = Check.netOf(FORKS + "l2 5;l3 4;");
        due("count(1, 9)", x.count(1, 9), 4);
        due("count(0, 1)", x.count(0, 1), 4);
        due("count(0, 2)", x.count(0, 2), 0);
        due("count(0, 3)", x.count(0, 3), 4);
        due("count(1, 0)", x.count(1, 0), 2);
        due("told(4)", x.told(4), 3);
        due("told(5)", x.told(5), 0);
        due("told(12)", x.told(12), 5);
        due("count(0, 4)", x.count(0, 4), OUTSIDE);
        due("count(0, -1)", x.count(0, -1), OUTSIDE);
        due("count(1, 10)", x.count(1, 10), OUTSIDE);
        due("count(1, -1)", x.count(1, -1), OUTSIDE);
        due("count(2, 0)", x.count(2, 0), OUTSIDE);
        due("count(-1, 0)", x.count(-1, 0), OUTSIDE);
        due("told(12)", x.told(12), 5);
        due("count(0, 0)", x.count(0, 0), 2);
        EightWays empty = new EightWays();
        due("count(0, 2) of nothing", empty.count(0, 2), 0);
        due("undo()", empty.undo(), 0);
        due("told(4)", empty.told(4), 0);
    }

    private static void move() {
        CHECK.part("promise 13");
        EightWays x = Check.netOf(SQUARE + "l0 4;");
        due("told(6)", x.told(6), 6);
        due("move(4, 0, 99)", x.move(4, 0, 99), 5);
        due("station(4, 0)", x.station(4, 0), 0);
        due("station(4, 1)", x.station(4, 1), 99);
        due("stretch(3, 2)", x.stretch(3, 2), 2);
        due("move(0, 99, 0)", x.move(0, 99, 0), 4);
        due("stretch(0, 2)", x.stretch(0, 2), 4);
        due("told(12)", x.told(12), 2);
        due("move(5, 100, 0)", x.move(5, 100, 0), UNKNOWN);
        due("move(-1, 0, 0)", x.move(-1, 0, 0), UNKNOWN);
        due("move(0, 100, 0)", x.move(0, 100, 0), OUTSIDE);
        due("move(0, 0, 100)", x.move(0, 0, 100), OUTSIDE);
        due("move(0, -1, 0)", x.move(0, -1, 0), OUTSIDE);
        due("move(0, 0, -1)", x.move(0, 0, -1), OUTSIDE);
        due("station(0, 0)", x.station(0, 0), 99);
        due("told(12)", x.told(12), 2);
    }

    private static void drift() {
        CHECK.part("promise 14");
        EightWays x = Check.netOf("s0 0;s0 0;s0 0;e0 1;e1 2;l0 2;");
        due("drift(1)", x.drift(1), 4);
        int[][] want = {{7, 49}, {73, 58}, {30, 72}};
        for (int s = 0; s < 3; s++) {
            due("station(" + s + ", 0)", x.station(s, 0), want[s][0]);
            due("station(" + s + ", 1)", x.station(s, 1), want[s][1]);
        }
        due("drift(999999)", x.drift(999999), 4);
        due("station(0, 0)", x.station(0, 0), 999999L * 16807 % 2147483647 % 100);
        due("told(12)", x.told(12), 2);
        due("drift(0)", x.drift(0), OUTSIDE);
        due("drift(1000000)", x.drift(1000000), OUTSIDE);
        due("told(12)", x.told(12), 2);
        due("undo()", x.undo(), 1);
        due("station(2, 1)", x.station(2, 1), 72);
        EightWays empty = new EightWays();
        due("drift(0) of nothing", empty.drift(0), OUTSIDE);
        due("drift(1) of nothing", empty.drift(1), NOT);
    }

    private static void undo() {
        CHECK.part("promise 15");
        EightWays x = Check.netOf(SQUARE + "l0 4;");
        due("undo()", x.undo(), NOT);
        x.fix(0, 1);
        x.loose(0);
        x.count(0, 2);
        x.count(1, 7);
        x.move(2, 5, 6);
        x.drift(77);
        due("undo() of drift", x.undo(), 5);
        due("station(2, 0)", x.station(2, 0), 5);
        due("station(0, 0)", x.station(0, 0), 0);
        due("undo() of move", x.undo(), 4);
        due("station(2, 0)", x.station(2, 0), 9);
        due("undo() of count", x.undo(), 3);
        due("told(5)", x.told(5), 1);
        due("told(4)", x.told(4), 2);
        due("undo() of count", x.undo(), 2);
        due("told(4)", x.told(4), 0);
        due("told(10)", x.told(10), 0);
        due("undo() of loose", x.undo(), 1);
        due("stretch(0, 6)", x.stretch(0, 6), 1);
        due("told(6)", x.told(6), 6);
        due("undo() of fix", x.undo(), 0);
        due("told(10)", x.told(10), 0);
        due("undo()", x.undo(), NOT);
        for (int n = 1; n <= 20; n++) {
            x.move(0, n, 0);
            due("told(12)", x.told(12), Math.min(n, 16));
        }
        for (int n = 15; n >= 0; n--) {
            due("undo()", x.undo(), n);
            due("station(0, 0)", x.station(0, 0), n + 4);
        }
        due("undo()", x.undo(), NOT);
        due("station(0, 0)", x.station(0, 0), 4);
    }

    private static void bend() {
        CHECK.part("promise 16");
        EightWays x = new EightWays();
        int[][] want = {{0, 1, 2, 3, 4}, {0, 1, 4, 9, 16}, {0, 0, 10, 10, 10}, {0, 1, 1, 1, 1}};
        for (int way = 0; way < 4; way++) {
            for (int n = 0; n < 5; n++) {
                due("bend(" + way + ", " + n + ")", x.bend(way, n), want[way][n]);
            }
        }
        due("bend(-1, 0)", x.bend(-1, 0), OUTSIDE);
        due("bend(4, 0)", x.bend(4, 0), OUTSIDE);
        due("bend(0, -1)", x.bend(0, -1), OUTSIDE);
        due("bend(0, 5)", x.bend(0, 5), OUTSIDE);
    }

    private static void would() {
        CHECK.part("promise 17");
        EightWays x = Check.netOf(SQUARE);
        due("would(1, 6)", x.would(1, 6), 4);
        due("told(6)", x.told(6), 0);
        due("told(10)", x.told(10), 0);
        due("told(12)", x.told(12), 0);
        x.fix(0, 2);
        due("would(1, 6)", x.would(1, 6), NONE);
        due("told(6)", x.told(6), 2);
        due("would(0, 1)", x.would(0, 1), 1);
        due("stretch(0, 6)", x.stretch(0, 6), 2);
        due("stretch(0, 3)", x.stretch(0, 3), 2);
        due("would(4, 8)", x.would(4, 8), UNKNOWN);
        due("would(-1, 0)", x.would(-1, 0), UNKNOWN);
        due("would(0, 8)", x.would(0, 8), OUTSIDE);
        due("would(0, -1)", x.would(0, -1), OUTSIDE);
    }

    private static void plans() {
        CHECK.part("promise 18");
        EightWays like = Check.netOf("s0 50;s90 50;s90 51;e0 1;e0 2;");
        due("plans()", like.plans(), 6);
        like.fix(0, 0);
        due("plans()", like.plans(), 2);
        like.fix(0, 4);
        due("plans()", like.plans(), 3);
        like.fix(1, 4);
        due("plans()", like.plans(), 0);
        like.undo();
        due("plans()", like.plans(), 3);
        // a row in one direction: no two that meet are ever against each other
        EightWays row = Check.netOf("s0 0;s9 0;s19 0;s29 0;e0 1;e1 2;e2 3;");
        due("plans()", row.plans(), 27);
        // four that truly go one way can't all be unlike
        EightWays four = Check.netOf("s0 0;s9 0;s9 0;s9 0;s9 0;e0 1;e0 2;e0 3;e0 4;");
        due("plans()", four.plans(), 0);
        due("told(6)", four.told(6), NONE);
    }

    private static void orderIs(EightWays x, int e, int... want) {
        for (int i = 0; i < want.length; i++) {
            due("order(" + e + ", " + i + ")", x.order(e, i), want[i]);
        }
        due("order(" + e + ", behind)", x.order(e, want.length), NONE);
    }

    private static void order() {
        CHECK.part("promise 19");
        orderIs(Check.netOf(FORKS + "l2 4;l3 5;"), 0, 0, 1);
        orderIs(Check.netOf(FORKS + "l3 5;l2 4;"), 0, 1, 0);
        orderIs(Check.netOf(FORKS + "l5 3;l2 4;"), 0, 1, 0);
        orderIs(Check.netOf(FORKS + "l2 5;l3 4;"), 0, 0, 1);
        // told from B to A the left is the right
        orderIs(Check.netOf(FORKS.replace("e0 1", "e1 0") + "l2 4;l3 5;"), 0, 1, 0);
        EightWays x = Check.netOf(FORKS + "l2 4;l3 5;");
        orderIs(x, 1, 0);
        orderIs(x, 4, 1);
        due("order(0, far)", x.order(0, Integer.MAX_VALUE), NONE);
        due("order(5, -1)", x.order(5, -1), UNKNOWN);
        due("order(-1, 0)", x.order(-1, 0), UNKNOWN);
        due("order(0, -1)", x.order(0, -1), OUTSIDE);
        x.fix(3, 7);
        x.fix(4, 7);
        due("order(0, 0)", x.order(0, 0), NONE);
        // the branches change sides: so do the lines
        x.fix(3, 6);
        x.fix(4, 2);
        x.fix(1, 6);
        x.fix(2, 2);
        orderIs(x, 0, 1, 0);
        due("told(9)", x.told(9), 0);
        orderIs(Check.netOf(SQUARE), 0);
    }

    private static void orderOfThree() {
        CHECK.part("promise 19, three lines");
        String fan = "s0 50;s30 50;s60 50;s90 99;s90 50;s90 10;e0 1;e2 1;e2 3;e2 4;e2 5;";
        EightWays x = Check.netOf(fan + "l0 5;l0 4;l3 0;");
        orderIs(x, 0, 2, 1, 0);
        orderIs(x, 1, 0, 1, 2);
        due("told(9)", x.told(9), 0);
        // lines that never part keep the least order, reversed where the stretch is told the other way
        EightWays all = Check.netOf("s0 0;s9 0;s19 0;s29 0;e1 0;e1 2;e3 2;l0 3;l3 0;l0 3;");
        orderIs(all, 0, 0, 1, 2);
        orderIs(all, 1, 2, 1, 0);
        orderIs(all, 2, 0, 1, 2);
        due("told(9)", all.told(9), 0);
    }

    private static void crossings() {
        CHECK.part("promise 20");
        EightWays x = Check.netOf(FORKS + "l2 5;l3 4;");
        int[] want = {0, 1, 0, 0, 0, 0};
        for (int s = 0; s < 6; s++) {
            due("crossings(" + s + ")", x.crossings(s), want[s]);
        }
        due("crossings(6)", x.crossings(6), UNKNOWN);
        due("crossings(-1)", x.crossings(-1), UNKNOWN);
        EightWays turned = Check.netOf(FORKS + "l3 4;l2 5;");
        due("crossings(0)", turned.crossings(0), 1);
        due("crossings(1)", turned.crossings(1), 0);
        due("told(9)", turned.told(9), 1);
        x.fix(3, 7);
        x.fix(4, 7);
        due("crossings(1)", x.crossings(1), NONE);
        // each fork has its lines as it wants them: they change sides between, at station 0
        EightWays middle = Check.netOf("s50 50;s40 50;s60 50;s20 70;s20 30;s80 70;s80 30;e1 0;e2 0;e1 3;e1 4;e2 5;e2 6;l3 6;l4 5;");
        orderIs(middle, 0, 0, 1);
        orderIs(middle, 1, 0, 1);
        due("crossings(0)", middle.crossings(0), 1);
        due("crossings(1)", middle.crossings(1), 0);
        due("crossings(2)", middle.crossings(2), 0);
        due("told(9)", middle.told(9), 1);
        // a line that ends where the other goes on doesn't cross it
        EightWays ending = Check.netOf(FORKS + "l2 1;l3 4;");
        due("told(9)", ending.told(9), 0);
    }

    private static void cross() {
        CHECK.part("promise 21");
        EightWays x = Check.netOf(FORKS + "l2 5;l3 4;l0 1;");
        due("cross(0, 1)", x.cross(0, 1), 1);
        due("cross(1, 0)", x.cross(1, 0), 1);
        due("cross(0, 2)", x.cross(0, 2), 0);
        due("cross(2, 1)", x.cross(2, 1), 0);
        due("cross(1, 1)", x.cross(1, 1), UNKNOWN);
        due("cross(0, 3)", x.cross(0, 3), UNKNOWN);
        due("cross(-1, 0)", x.cross(-1, 0), UNKNOWN);
        due("cross(0, -1)", x.cross(0, -1), UNKNOWN);
        x.fix(3, 7);
        x.fix(4, 7);
        due("cross(0, 1)", x.cross(0, 1), NONE);
        // two of three change sides with the third
        EightWays two = Check.netOf(FORKS + "l2 5;l3 4;l2 5;");
        due("told(9)", two.told(9), 2);
        due("cross(0, 1)", two.cross(0, 1), 1);
        due("cross(2, 1)", two.cross(2, 1), 1);
        due("cross(0, 2)", two.cross(0, 2), 0);
    }

    private static void keep() {
        CHECK.part("promise 22");
        EightWays x = Check.netOf(SQUARE);
        x.fix(1, 3);
        due("keep(2)", x.keep(2), UNKNOWN);
        due("keep(-1)", x.keep(-1), UNKNOWN);
        due("told(12)", x.told(12), 1);
        due("keep(0)", x.keep(0), 1);
        due("told(12)", x.told(12), 0);
        due("undo()", x.undo(), NOT);
        due("stretch(1, 6)", x.stretch(1, 6), 3);
        x.fix(1, 6);
        due("keep(1)", x.keep(1), 1);
        due("goBack(0)", x.goBack(0), 1);
        due("goBack(1)", x.goBack(1), 4);
        due("keep(0)", x.keep(0), 1);
        x.loose(1);
        due("goBack(0)", x.goBack(0), 4);
        due("new: keep(1)", new EightWays().keep(1), 1);
    }

    private static void goBack() {
        CHECK.part("promise 23");
        EightWays x = Check.netOf(SQUARE + "l0 4;");
        due("goBack(0)", x.goBack(0), NOT);
        due("goBack(2)", x.goBack(2), UNKNOWN);
        due("goBack(-1)", x.goBack(-1), UNKNOWN);
        x.count(0, 1);
        x.count(1, 3);
        x.fix(2, 3);
        x.move(0, 1, 2);
        int cost = x.told(6);
        x.keep(1);
        x.count(0, 0);
        x.count(1, 9);
        x.loose(2);
        x.drift(5);
        due("goBack(0)", x.goBack(0), NOT);
        due("told(12)", x.told(12), 4);
        due("goBack(1)", x.goBack(1), cost);
        due("told(4)", x.told(4), 1);
        due("told(5)", x.told(5), 3);
        due("told(10)", x.told(10), 4);
        due("stretch(2, 6)", x.stretch(2, 6), 3);
        due("station(0, 0)", x.station(0, 0), 1);
        due("station(0, 1)", x.station(0, 1), 2);
        due("station(4, 1)", x.station(4, 1), 1);
        due("told(12)", x.told(12), 0);
        due("undo()", x.undo(), NOT);
        // an image stays as it was kept, whatever is done behind it
        x.move(0, 50, 50);
        due("goBack(1)", x.goBack(1), cost);
        due("station(0, 0)", x.station(0, 0), 1);
        x.fix(3, 7);
        x.fix(2, 3);
        due("goBack(1)", x.goBack(1), cost);
    }
}
