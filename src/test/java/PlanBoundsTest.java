/** The bounds of directions, ways, offset, plans and lengths, sentence by sentence: part 2 of the terms and who asks for it. */
public final class PlanBoundsTest {
    private static final int NONE = -1;
    /** How many eighths apart, the shorter way, for each number of eighths more. */
    private static final int[] SHORTER = {0, 1, 2, 3, 4, 3, 2, 1};
    /** One to each direction. */
    private static final int[][] STEPS = {{1, 0}, {1, 1}, {0, 1}, {-1, 1}, {-1, 0}, {-1, -1}, {0, -1}, {1, -1}};
    /** A bend of n eighths, by each way. */
    private static final int[][] COUNTED = {{0, 1, 2, 3, 4}, {0, 1, 4, 9, 16}, {0, 0, 10, 10, 10}, {0, 1, 1, 1, 1}};

    private static final Check CHECK = new Check();

    public static void main(String[] args) {
        directions();
        oppositeFromB();
        straightOrSlanting();
        trueOfNoDistance();
        offTheShorterWay();
        bendTheShorterWay();
        countedByWays();
        countedInPlans();
        offsets();
        straightAndShortLines();
        dearestPlan();
        oneEighthBeside();
        wrapsRound();
        unlikeAtEachStation();
        threeOneWay();
        fourOneWay();
        likePlansTheFirst();
        likePlansByTheEarlierStretch();
        fixedWhateverIsTrue();
        fixedFarFromTrueLeavesNoRoom();
        noPlan();
        noStretches();
        sevenAtOneStation();
        howManyPlans();
        placesOfEachTree();
        lengthsOfOne();
        lengthsAsLittleTogether();
        lengthsUpToThree();
        lengthsNoLongerThanThree();
        lengthsOfEachTree();
        placesWhereTreesAreJoined();
        wouldChangesNothing();
        alongAndSets();
        CHECK.end();
    }

    private static void due(String call, long got, long want) {
        CHECK.due(call, got, want);
    }

    private static EightWays pair() {
        return Check.netOf("s50 50;s50 50;e0 1;");
    }

    /** "DIRECTIONS 0 .. 7: 0 to greater X, 1 to greater X and Y, 2 to greater Y, 3 to lesser X and greater Y, and so on round" */
    private static void directions() {
        CHECK.part("directions 0 .. 7");
        EightWays x = pair();
        for (int d = 0; d <= 7; d++) {
            x.fix(0, d);
            due("stretch(0, 3)", x.stretch(0, 3), d);
            due("stretch(0, 6)", x.stretch(0, 6), d);
            due("station(1, 4) by " + d, x.station(1, 4), STEPS[d][0]);
            due("station(1, 5) by " + d, x.station(1, 5), STEPS[d][1]);
            due("station(0, 4)", x.station(0, 4), 0);
            x.move(1, 50 + 49 * STEPS[d][0], 50 + 49 * STEPS[d][1]);
            due("stretch(0, 2) to " + d, x.stretch(0, 2), d);
        }
    }

    /** "a STRETCH has one from A to B, the opposite one (4 more) from B to A" */
    private static void oppositeFromB() {
        CHECK.part("the opposite from B to A");
        EightWays x = Check.netOf("s50 50;s50 50;e1 0;");
        for (int d = 0; d <= 7; d++) {
            x.fix(0, d);
            due("station(1, 4) by " + d, x.station(1, 4), -STEPS[d][0]);
            due("station(1, 5) by " + d, x.station(1, 5), -STEPS[d][1]);
            // the sign keeps clear of the stretch, from either end
            due("station(0, 6) by " + d, x.station(0, 6), d == 4 ? 1 : 0);
            due("station(1, 6) by " + d, x.station(1, 6), d == 0 ? 1 : 0);
        }
    }

    /** "straight the way of the greater, if 12 b is less than 5 a; else slanting the way of both" */
    private static void straightOrSlanting() {
        CHECK.part("straight or slanting");
        // a, and the last b that leaves it straight
        int[][] bounds = {{1, 0}, {2, 0}, {3, 1}, {4, 1}, {5, 2}, {11, 4}, {12, 4}, {13, 5}, {24, 9}, {36, 14}, {48, 19}, {49, 20}};
        for (int[] bound : bounds) {
            for (int signs = 0; signs < 4; signs++) {
                int right = (signs & 1) == 0 ? 1 : -1;
                int up = (signs & 2) == 0 ? 1 : -1;
                int slanting = up > 0 ? (right > 0 ? 1 : 3) : (right > 0 ? 7 : 5);
                goes(right * bound[0], up * bound[1], right > 0 ? 0 : 4);
                goes(right * bound[0], up * (bound[1] + 1), slanting);
                goes(right * bound[1], up * bound[0], up > 0 ? 2 : 6);
                goes(right * (bound[1] + 1), up * bound[0], slanting);
            }
        }
        // as far as can be
        int[][] far = {{0, 0, 99, 41, 0}, {0, 0, 99, 42, 1}, {0, 0, 41, 99, 2}, {0, 0, 42, 99, 1}, {99, 99, 0, 58, 4}, {99, 99, 0, 57, 5},
            {99, 0, 0, 99, 3}, {0, 99, 99, 0, 7}, {0, 0, 99, 99, 1}, {99, 99, 0, 0, 5}, {0, 0, 96, 39, 0}, {0, 0, 96, 40, 1}};
        for (int[] f : far) {
            EightWays x = pair();
            x.move(0, f[0], f[1]);
            x.move(1, f[2], f[3]);
            due("stretch(0, 2) from " + f[0] + " " + f[1] + " to " + f[2] + " " + f[3], x.stretch(0, 2), f[4]);
        }
    }

    private static void goes(int dx, int dy, int direction) {
        EightWays x = pair();
        x.move(1, 50 + dx, 50 + dy);
        due("stretch(0, 2) by " + dx + " " + dy, x.stretch(0, 2), direction);
        due("stretch(0, 3) by " + dx + " " + dy, x.stretch(0, 3), direction);
    }

    /** "dx is 0 and dy is 0: 0" */
    private static void trueOfNoDistance() {
        CHECK.part("no distance");
        for (int at : new int[] {0, 1, 50, 99}) {
            EightWays x = Check.netOf("s" + at + " " + at + ";s" + at + " " + at + ";e1 0;");
            due("stretch(0, 2)", x.stretch(0, 2), 0);
            due("stretch(0, 3)", x.stretch(0, 3), 0);
            due("told(6)", x.told(6), 0);
        }
    }

    /** "OFF of a DIRECTION: how many eighths it is from TRUE, 0 .. 4, the shorter way" */
    private static void offTheShorterWay() {
        CHECK.part("off");
        for (int t = 0; t < 8; t++) {
            EightWays x = pair();
            x.move(1, 50 + STEPS[t][0], 50 + STEPS[t][1]);
            for (int d = 0; d < 8; d++) {
                int off = SHORTER[(d - t + 8) % 8];
                due("would(0, " + d + ") true " + t, x.would(0, d), off);
                due("fix(0, " + d + ") true " + t, x.fix(0, d), off);
                due("stretch(0, 4)", x.stretch(0, 4), off);
                due("stretch(0, 2)", x.stretch(0, 2), t);
            }
        }
    }

    /** "by how many eighths the one in which it comes and the one in which it goes on differ, the shorter way" */
    private static void bendTheShorterWay() {
        CHECK.part("bends");
        String[] nets = {"e0 1;e1 2;l0 2;", "e0 1;e1 2;l2 0;", "e1 0;e1 2;l0 2;", "e0 1;e2 1;l0 2;", "e1 0;e2 1;l2 0;"};
        int[][] turned = {{0, 0}, {0, 0}, {4, 0}, {0, 4}, {4, 4}};
        for (int n = 0; n < nets.length; n++) {
            for (int d = 0; d < 8; d++) {
                EightWays x = Check.netOf("s5 5;s5 5;s5 5;" + nets[n]);
                x.count(1, 0);
                x.fix(0, (d + turned[n][0]) % 8);
                for (int f = 0; f < 8; f++) {
                    int bend = SHORTER[(f - d + 8) % 8];
                    int want = bend == 4 ? NONE : bend;
                    due(nets[n] + " would bend from " + d + " to " + f, x.would(1, (f + turned[n][1]) % 8), want);
                    due(nets[n] + " bends from " + d + " to " + f, x.fix(1, (f + turned[n][1]) % 8), want);
                    due("line(0, 3)", x.line(0, 3), want);
                    due("told(7)", x.told(7), want);
                }
            }
        }
    }

    /** "COUNTED by WAY 0: as it is; 1: its square; 2: 0 below 2, else 10; 3: 0, if it is 0, else 1" */
    private static void countedByWays() {
        CHECK.part("promise 16, counted");
        EightWays x = new EightWays();
        for (int way = 0; way <= 3; way++) {
            for (int n = 0; n <= 4; n++) {
                due("bend(" + way + ", " + n + ")", x.bend(way, n), COUNTED[way][n]);
            }
        }
        // bend() is asked of any way, whatever the net's is
        x.count(0, 3);
        due("bend(1, 4)", x.bend(1, 4), 16);
        due("told(4)", x.told(4), 3);
    }

    private static void countedInPlans() {
        CHECK.part("counted in plans");
        EightWays x = Check.netOf("s5 5;s5 5;s5 5;e0 1;e1 2;l0 2;");
        x.fix(0, 7);
        for (int bend = 0; bend <= 3; bend++) {
            x.fix(1, (7 + bend) % 8);
            for (int way = 0; way <= 3; way++) {
                x.count(1, 0);
                due("count(0, " + way + ") of " + bend, x.count(0, way), COUNTED[way][bend]);
                due("told(4)", x.told(4), way);
                due("told(7)", x.told(7), COUNTED[way][bend]);
                due("line(0, 3)", x.line(0, 3), COUNTED[way][bend]);
                // off: one of the first, at most three of the second
                int off = 1 + SHORTER[(7 + bend) % 8];
                due("count(1, 9)", x.count(1, 9), 9 * off + COUNTED[way][bend]);
            }
        }
    }

    /** "OFFSET (0 .. 9; 1 at first)" */
    private static void offsets() {
        CHECK.part("offset 0 .. 9");
        EightWays x = pair();
        due("told(5)", x.told(5), 1);
        due("fix(0, 4)", x.fix(0, 4), 4);
        for (int v = 0; v <= 9; v++) {
            due("count(1, " + v + ")", x.count(1, v), 4 * v);
            due("told(5)", x.told(5), v);
            due("told(6)", x.told(6), 4 * v);
            due("told(7)", x.told(7), 0);
            due("stretch(0, 4)", x.stretch(0, 4), 4);
        }
        // with an offset of 0 being off costs nothing: the line goes straight
        EightWays line = Check.netOf("s0 0;s10 0;s20 10;e0 1;e1 2;l0 2;");
        due("told(6)", line.told(6), 1);
        due("count(1, 0)", line.count(1, 0), 0);
        due("stretch(0, 3)", line.stretch(0, 3), 0);
        due("stretch(1, 3)", line.stretch(1, 3), 0);
    }

    /** A line along one stretch goes through no station. */
    private static void straightAndShortLines() {
        CHECK.part("lines of one stretch");
        EightWays x = Check.netOf("s0 0;s10 0;s10 10;e0 1;e1 2;l0 1;l2 1;");
        x.count(0, 1);
        due("told(7)", x.told(7), 0);
        due("line(0, 3)", x.line(0, 3), 0);
        due("line(1, 3)", x.line(1, 3), 0);
        due("stretch(1, 3)", x.stretch(1, 3), 2);
        // none but lines bend: a corner without a line costs nothing
        due("told(6)", Check.netOf("s0 0;s10 0;s10 10;e0 1;e1 2;").told(6), 0);
        due("told(7)", Check.netOf("s0 0;s10 0;s10 10;e0 1;e1 2;").told(7), 0);
    }

    /** Each of seven stretches as far off as can be, three lines that bend by three eighths wherever they can. */
    private static void dearestPlan() {
        CHECK.part("the dearest plan");
        EightWays x = Check.netOf("s20 60;s10 60;s20 50;s10 50;s20 40;s10 40;s20 30;s10 30;"
            + "e0 1;e1 2;e2 3;e3 4;e4 5;e5 6;e6 7;l0 7;l7 0;l0 7;");
        for (int e = 0; e < 7; e++) {
            x.fix(e, e % 2 == 0 ? 0 : 3);
            due("stretch(" + e + ", 2)", x.stretch(e, 2), e % 2 == 0 ? 4 : 7);
        }
        due("told(10)", x.told(10), 127);
        due("count(1, 9)", x.count(1, 9), 9 * 4 * 7 + 3 * 18);
        due("count(0, 1)", x.count(0, 1), 9 * 4 * 7 + 3 * 54);
        due("count(0, 2)", x.count(0, 2), 9 * 4 * 7 + 3 * 60);
        due("count(0, 3)", x.count(0, 3), 9 * 4 * 7 + 3 * 6);
        due("told(7)", x.told(7), 18);
        due("line(1, 3)", x.line(1, 3), 6);
        due("told(8)", x.told(8), 7);
        due("plans()", x.plans(), 1);
    }

    /** "TRUE or one eighth beside it" */
    private static void oneEighthBeside() {
        CHECK.part("one eighth beside");
        EightWays x = Check.netOf("s50 50;s90 50;s50 90;e0 1;e1 2;l0 2;");
        // truly 0, then 3: straight, if one might go two eighths beside
        due("stretch(1, 2)", x.stretch(1, 2), 3);
        due("count(1, 0)", x.count(1, 0), 1);
        due("stretch(0, 3)", x.stretch(0, 3), 1);
        due("stretch(1, 3)", x.stretch(1, 3), 2);
        // of nine two go back the way they come
        due("plans()", x.plans(), 7);
        // off by more only where it is fixed
        due("fix(0, 2)", x.fix(0, 2), 0);
        due("stretch(1, 3)", x.stretch(1, 3), 2);
        due("fix(0, 0)", x.fix(0, 0), 2);
        due("stretch(1, 3)", x.stretch(1, 3), 2);
    }

    /** One more than 7 is 0, one less than 0 is 7. */
    private static void wrapsRound() {
        CHECK.part("round from 7 to 0");
        for (int t = 0; t < 8; t++) {
            EightWays x = Check.netOf("s50 50;s50 50;s50 50;s50 50;e0 1;e0 2;e0 3;");
            for (int s = 1; s <= 3; s++) {
                x.move(s, 50 + STEPS[t][0], 50 + STEPS[t][1]);
            }
            due("told(6) true " + t, x.told(6), 2);
            due("stretch(0, 3) true " + t, x.stretch(0, 3), t);
            due("stretch(1, 3) true " + t, x.stretch(1, 3), (t + 1) % 8);
            due("stretch(2, 3) true " + t, x.stretch(2, 3), (t + 7) % 8);
            due("stretch(1, 4) true " + t, x.stretch(1, 4), 1);
            due("stretch(2, 4) true " + t, x.stretch(2, 4), 1);
            due("plans() true " + t, x.plans(), 6);
        }
    }

    /** "at each STATION all that go from it are unlike" */
    private static void unlikeAtEachStation() {
        CHECK.part("unlike at each station");
        String[] nets = {"e0 1;e0 2;", "e1 0;e2 0;", "e1 0;e0 2;", "e0 1;e2 0;"};
        for (int n = 0; n < nets.length; n++) {
            int turned = n < 2 ? 0 : 4;
            EightWays x = Check.netOf("s5 5;s5 5;s5 5;" + nets[n]);
            for (int d = 0; d < 8; d++) {
                x.fix(0, d);
                for (int f = 0; f < 8; f++) {
                    boolean like = (d + turned) % 8 == f;
                    due(nets[n] + " would go " + d + ", " + f, x.would(1, f) == NONE ? 1 : 0, like ? 1 : 0);
                }
            }
        }
        // stretches that don't meet may be like
        EightWays apart = Check.netOf("s5 5;s5 5;s5 5;s5 5;e0 1;e1 2;e2 3;");
        apart.fix(0, 0);
        apart.fix(1, 2);
        due("fix(2, 0)", apart.fix(2, 0), 2);
        due("fix(2, 4)", apart.fix(2, 4), 6);
    }

    private static EightWays oneWay(int stretches) {
        StringBuilder text = new StringBuilder("s50 50;");
        for (int s = 1; s <= stretches; s++) {
            text.append("s90 50;");
        }
        for (int s = 1; s <= stretches; s++) {
            text.append("e0 ").append(s).append(';');
        }
        return Check.netOf(text.toString());
    }

    private static void threeOneWay() {
        CHECK.part("three that truly go one way");
        due("plans() of 1", oneWay(1).plans(), 3);
        due("plans() of 2", oneWay(2).plans(), 6);
        due("plans() of 3", oneWay(3).plans(), 6);
        due("told(6) of 1", oneWay(1).told(6), 0);
        due("told(6) of 2", oneWay(2).told(6), 1);
        due("told(6) of 3", oneWay(3).told(6), 2);
    }

    /** "NONE: there is no PLAN." */
    private static void fourOneWay() {
        CHECK.part("four that truly go one way");
        EightWays x = oneWay(4);
        due("plans()", x.plans(), 0);
        due("told(6)", x.told(6), NONE);
        // by hand there is room
        due("fix(2, 4)", x.fix(2, 4), 4 + 2);
        due("plans()", x.plans(), 6);
        due("fix(2, 1)", x.fix(2, 1), NONE);
        due("plans()", x.plans(), 0);
    }

    /** "of like ones the first (STRETCH by STRETCH: TRUE, then one more, then one less)" */
    private static void likePlansTheFirst() {
        CHECK.part("of like plans the first");
        // offset 0, no lines: all plans cost 0
        EightWays x = oneWay(3);
        due("count(1, 0)", x.count(1, 0), 0);
        due("stretch(0, 3)", x.stretch(0, 3), 0);
        due("stretch(1, 3)", x.stretch(1, 3), 1);
        due("stretch(2, 3)", x.stretch(2, 3), 7);
        x.fix(2, 0);
        due("stretch(0, 3) goes one more", x.stretch(0, 3), 1);
        due("stretch(1, 3) goes one less", x.stretch(1, 3), 7);
        x.fix(2, 1);
        due("stretch(0, 3)", x.stretch(0, 3), 0);
        due("stretch(1, 3) goes one less", x.stretch(1, 3), 7);
    }

    private static void likePlansByTheEarlierStretch() {
        CHECK.part("of like plans, by the earlier stretch");
        // truly 0, then 1: a bend of 1, or off by 1 and straight: all TRUE comes first
        EightWays x = Check.netOf("s0 0;s10 0;s20 10;e0 1;e1 2;l0 2;");
        due("told(6)", x.told(6), 1);
        due("stretch(0, 3)", x.stretch(0, 3), 0);
        due("stretch(1, 3)", x.stretch(1, 3), 1);
        // two lines bend for 2, so either stretch goes off for 1: that the first is TRUE comes first
        EightWays two = Check.netOf("s0 0;s10 0;s20 10;e0 1;e1 2;l0 2;l2 0;");
        due("told(6)", two.told(6), 1);
        due("stretch(0, 3)", two.stretch(0, 3), 0);
        due("stretch(1, 3)", two.stretch(1, 3), 0);
        // told the other way round: stretch 0 is the slanting one
        EightWays turned = Check.netOf("s20 10;s10 0;s0 0;e0 1;e1 2;l0 2;l2 0;");
        due("stretch(0, 3)", turned.stretch(0, 3), 5);
        due("stretch(1, 3)", turned.stretch(1, 3), 5);
    }

    /** "BY HAND a DIRECTION may be told for STRETCHES (any): FIXED; then PLANS are those in which these are so (whatever is TRUE)." */
    private static void fixedWhateverIsTrue() {
        CHECK.part("fixed, whatever is true");
        EightWays x = oneWay(7);
        due("told(6)", x.told(6), NONE);
        int[] off = {0, 1, 2, 3, 4, 3, 2};
        // as long as two or more are left for one direction (7) there is no plan
        int[] want = {NONE, NONE, NONE, NONE, NONE, 14, 15};
        for (int e = 0; e < 7; e++) {
            due("fix(" + e + ", " + e + ")", x.fix(e, e), want[e]);
        }
        due("told(10)", x.told(10), 127);
        due("plans()", x.plans(), 1);
        for (int e = 0; e < 7; e++) {
            due("stretch(" + e + ", 3)", x.stretch(e, 3), e);
            due("stretch(" + e + ", 4)", x.stretch(e, 4), off[e]);
        }
        // fixed once more: the latest is so
        due("fix(0, 7)", x.fix(0, 7), 16);
        due("stretch(0, 6)", x.stretch(0, 6), 7);
        due("told(10)", x.told(10), 127);
    }

    private static void fixedFarFromTrueLeavesNoRoom() {
        CHECK.part("fixed where another must go");
        EightWays x = oneWay(2);
        x.fix(0, 0);
        due("would(1, 0)", x.would(1, 0), NONE);
        due("fix(1, 0)", x.fix(1, 0), NONE);
        due("told(10)", x.told(10), 3);
        due("loose(0)", x.loose(0), 0);
        due("told(6)", x.told(6), 1);
        due("stretch(0, 3)", x.stretch(0, 3), 1);
    }

    /** All that is answered where there is no plan. */
    private static void noPlan() {
        CHECK.part("no plan");
        EightWays x = Check.netOf("s0 0;s9 0;s9 9;s50 50;e0 1;e1 2;l0 2;l2 0;");
        x.fix(0, 0);
        due("fix(1, 4)", x.fix(1, 4), NONE);
        int[] told = {4, 2, 2, 0, 0, 1, NONE, NONE, NONE, NONE, 3, NONE, 2};
        for (int what = 0; what < told.length; what++) {
            due("told(" + what + ")", x.told(what), told[what]);
        }
        int[][] stations = {{0, 0, 0, 1, -99, -99, NONE}, {9, 0, 0, 2, -99, -99, NONE}, {9, 9, 0, 1, -99, -99, NONE}, {50, 50, 3, 0, -99, -99, NONE}};
        for (int s = 0; s < 4; s++) {
            for (int what = 0; what <= 6; what++) {
                due("station(" + s + ", " + what + ")", x.station(s, what), stations[s][what]);
            }
            due("crossings(" + s + ")", x.crossings(s), NONE);
        }
        int[][] stretches = {{0, 1, 0, NONE, NONE, NONE, 0, 3}, {1, 2, 2, NONE, NONE, NONE, 4, 3}};
        for (int e = 0; e < 2; e++) {
            for (int what = 0; what <= 7; what++) {
                due("stretch(" + e + ", " + what + ")", x.stretch(e, what), stretches[e][what]);
            }
            for (int i = 0; i < 3; i++) {
                due("order(" + e + ", " + i + ")", x.order(e, i), NONE);
            }
        }
        int[] line = {0, 2, 2, NONE};
        for (int what = 0; what <= 3; what++) {
            due("line(0, " + what + ")", x.line(0, what), line[what]);
        }
        due("along(0, 1)", x.along(0, 1), 1);
        due("cross(0, 1)", x.cross(0, 1), NONE);
        due("plans()", x.plans(), 0);
        changesWithoutPlan(x);
    }

    private static void changesWithoutPlan(EightWays x) {
        due("would(0, 0)", x.would(0, 0), NONE);
        // off by 1 and by 2, two lines that bend by 3
        due("would(0, 1)", x.would(0, 1), 9);
        due("fix(0, 0)", x.fix(0, 0), NONE);
        due("count(0, 2)", x.count(0, 2), NONE);
        due("count(1, 9)", x.count(1, 9), NONE);
        due("move(0, 1, 1)", x.move(0, 1, 1), NONE);
        due("drift(3)", x.drift(3), NONE);
        due("told(12)", x.told(12), 7);
        due("keep(0)", x.keep(0), 1);
        due("goBack(0)", x.goBack(0), NONE);
        due("told(4)", x.told(4), 2);
        due("loose(1)", x.loose(1), 4);
        due("told(6) is a cost again", x.told(6) >= 0 ? 1 : 0, 1);
        due("goBack(0)", x.goBack(0), NONE);
        due("told(6)", x.told(6), NONE);
    }

    /** A net of stations alone has one plan, that of nothing. */
    private static void noStretches() {
        CHECK.part("no stretches");
        for (int n = 0; n <= 8; n++) {
            EightWays x = Check.netOf("s5 5;".repeat(n));
            int[] told = {n, 0, 0, 0, 0, 1, 0, 0, 0, 0, 0, n, 0};
            for (int what = 0; what < told.length; what++) {
                due("told(" + what + ")", x.told(what), told[what]);
            }
            due("plans()", x.plans(), 1);
            for (int s = 0; s < n; s++) {
                int[] want = {5, 5, s, 0, 0, 0, 0};
                for (int what = 0; what <= 6; what++) {
                    due("station(" + s + ", " + what + ")", x.station(s, what), want[what]);
                }
                due("crossings(" + s + ")", x.crossings(s), 0);
            }
        }
    }

    /** Seven stretches go from a station at most: one direction is left. */
    private static void sevenAtOneStation() {
        CHECK.part("seven stretches at a station");
        for (int left = 0; left < 8; left++) {
            EightWays x = oneWay(7);
            for (int e = 0; e < 7; e++) {
                x.fix(e, e < left ? e : e + 1);
            }
            due("station(0, 3)", x.station(0, 3), 7);
            due("station(7, 3)", x.station(7, 3), 1);
            due("station(0, 6)", x.station(0, 6), left);
            due("told(8)", x.told(8), 7);
            due("told(11)", x.told(11), 8);
        }
    }

    /** "How many PLANS there are." */
    private static void howManyPlans() {
        CHECK.part("promise 18, how many");
        // a straight row: 3 for each stretch, none of them against another
        int want = 1;
        StringBuilder stations = new StringBuilder("s10 50;");
        StringBuilder stretches = new StringBuilder();
        for (int e = 0; e < 7; e++) {
            want *= 3;
            stations.append('s').append(20 + 10 * e).append(" 50;");
            stretches.append('e').append(e).append(' ').append(e + 1).append(';');
            due("plans() of a row of " + (e + 1), Check.netOf(stations.toString() + stretches).plans(), want);
        }
        EightWays x = Check.netOf(stations.toString() + stretches);
        for (int e = 0; e < 7; e++) {
            want /= 3;
            x.fix(e, 0);
            due("plans() with " + (e + 1) + " fixed", x.plans(), want);
        }
        // plans are counted whatever they cost, and anew behind each change
        x.count(1, 0);
        due("plans()", x.plans(), 1);
        x.loose(3);
        due("plans()", x.plans(), 3);
        x.undo();
        due("plans()", x.plans(), 1);
    }

    /** "STATION 0 of each tree of STRETCHES (that of the least number in it) is at 0, 0 of its own" */
    private static void placesOfEachTree() {
        CHECK.part("places of each tree");
        EightWays x = Check.netOf("s0 0;s50 50;s60 50;s70 50;s0 90;s0 80;e3 2;e2 1;e5 4;");
        int[][] want = {{0, 0, 0}, {1, 0, 0}, {1, 1, 0}, {1, 2, 0}, {4, 0, 0}, {4, 0, -1}};
        for (int s = 0; s < 6; s++) {
            due("station(" + s + ", 2)", x.station(s, 2), want[s][0]);
            due("station(" + s + ", 4)", x.station(s, 4), want[s][1]);
            due("station(" + s + ", 5)", x.station(s, 5), want[s][2]);
        }
        due("told(8)", x.told(8), 3);
    }

    /** "LENGTHS (1 .. 3 each)": one, where nothing is in the way. */
    private static void lengthsOfOne() {
        CHECK.part("lengths of one");
        EightWays x = Check.netOf("s10 50;s20 50;s30 50;s40 60;e0 1;e1 2;e2 3;");
        for (int e = 0; e < 3; e++) {
            due("stretch(" + e + ", 5)", x.stretch(e, 5), 1);
        }
        due("told(8)", x.told(8), 3);
    }

    private static void lengthsAre(EightWays x, int... want) {
        int sum = 0;
        for (int e = 0; e < want.length; e++) {
            due("stretch(" + e + ", 5)", x.stretch(e, 5), want[e]);
            sum += want[e];
        }
        due("told(8)", x.told(8), sum);
    }

    /** "as little together as can be; of like ones the first (STRETCH by STRETCH the shorter)" */
    private static void lengthsAsLittleTogether() {
        CHECK.part("lengths as little together as can be");
        // round a square: any one of its sides could be the longer one
        lengthsAre(Check.netOf("s0 0;s9 0;s9 9;s0 9;s0 1;e0 1;e1 2;e2 3;e3 4;"), 1, 1, 1, 2);
        lengthsAre(Check.netOf("s0 0;s9 0;s9 9;s0 9;s0 1;e3 4;e2 3;e1 2;e0 1;"), 1, 1, 1, 2);
        lengthsAre(Check.netOf("s0 0;s9 0;s9 9;s0 9;s0 1;e2 3;e0 1;e3 4;e1 2;"), 1, 1, 1, 2);
        // a triangle 0, 3, 6 comes back to its start
        lengthsAre(fixedRow(0, 3, 6), 1, 1, 2);
        lengthsAre(fixedRow(0, 2, 5), 1, 1, 2);
    }

    /** Stations in a row at one place, their stretches fixed. */
    private static EightWays fixedRow(int... directions) {
        StringBuilder text = new StringBuilder("s5 5;".repeat(directions.length + 1));
        for (int e = 0; e < directions.length; e++) {
            text.append('e').append(e).append(' ').append(e + 1).append(';');
        }
        EightWays x = Check.netOf(text.toString());
        for (int e = 0; e < directions.length; e++) {
            x.fix(e, directions[e]);
        }
        return x;
    }

    private static void lengthsUpToThree() {
        CHECK.part("lengths up to three");
        // whatever is 8 together or less, and comes ahead of these, brings one station to another
        EightWays x = fixedRow(4, 2, 7, 2, 4, 5);
        lengthsAre(x, 1, 1, 3, 1, 1, 1);
        int[][] places = {{0, 0}, {-1, 0}, {-1, 1}, {2, -2}, {2, -1}, {1, -1}, {0, -2}};
        for (int s = 0; s < 7; s++) {
            due("station(" + s + ", 4)", x.station(s, 4), places[s][0]);
            due("station(" + s + ", 5)", x.station(s, 5), places[s][1]);
        }
    }

    /** With a length of four the first would be 1, 1, 1, 1, 1, 1, 4; no net needs more than 10 together. */
    private static void lengthsNoLongerThanThree() {
        CHECK.part("lengths no longer than three");
        EightWays x = Check.netOf("s5 5;".repeat(8) + "e0 2;e0 3;e1 4;e1 5;e2 6;e6 7;e0 1;");
        int[] directions = {2, 1, 2, 3, 7, 1, 0};
        for (int e = 0; e < 7; e++) {
            x.fix(e, directions[e]);
        }
        lengthsAre(x, 1, 1, 1, 1, 1, 2, 3);
        int[][] places = {{0, 0}, {3, 0}, {0, 1}, {1, 1}, {3, 1}, {2, 1}, {1, 0}, {3, 2}};
        for (int s = 0; s < 8; s++) {
            due("station(" + s + ", 4)", x.station(s, 4), places[s][0]);
            due("station(" + s + ", 5)", x.station(s, 5), places[s][1]);
        }
    }

    /** Stretches that join two trees in their midst, told in any order, bring all stations to the same places. */
    private static void placesWhereTreesAreJoined() {
        CHECK.part("places where trees are joined");
        int[][] places = {{0, 0}, {1, 0}, {2, 1}, {2, 2}, {1, 3}};
        String[] told = {"e0 1;e1 2;e2 3;e3 4;", "e3 4;e2 3;e1 2;e0 1;", "e1 2;e3 4;e2 3;e0 1;", "e2 1;e4 3;e1 0;e3 2;", "e3 2;e1 0;e4 3;e2 1;"};
        for (String stretches : told) {
            EightWays x = Check.netOf("s10 10;s20 10;s30 20;s30 30;s20 40;" + stretches);
            for (int s = 0; s < 5; s++) {
                due("station(" + s + ", 4) of " + stretches, x.station(s, 4), places[s][0]);
                due("station(" + s + ", 5) of " + stretches, x.station(s, 5), places[s][1]);
            }
        }
        // the first station is joined last, and another comes to its place unless one is longer
        EightWays last = Check.netOf("s0 0;s9 0;s9 9;s0 9;s0 1;e2 1;e3 2;e4 3;e1 0;");
        lengthsAre(last, 1, 1, 1, 2);
        due("station(4, 4)", last.station(4, 4), 1);
        due("station(4, 5)", last.station(4, 5), 0);
    }

    /** "no two STATIONS of a tree": those of two trees may come to one place. */
    private static void lengthsOfEachTree() {
        CHECK.part("lengths of each tree");
        EightWays x = Check.netOf("s0 0;s9 0;s9 9;s0 0;s9 0;s9 9;e0 1;e3 4;e1 2;e4 5;");
        lengthsAre(x, 1, 1, 1, 1);
        for (int s = 0; s < 3; s++) {
            due("station(" + s + ", 4)", x.station(s, 4), x.station(s + 3, 4));
            due("station(" + s + ", 5)", x.station(s, 5), x.station(s + 3, 5));
            due("station(" + s + ", 6)", x.station(s, 6), x.station(s + 3, 6));
        }
        // one tree without a plan leaves none for the others
        x.fix(1, 0);
        x.fix(3, 4);
        due("told(8)", x.told(8), NONE);
        due("stretch(0, 5)", x.stretch(0, 5), NONE);
        due("station(0, 4)", x.station(0, 4), -99);
    }

    /** "COST of BEST, were a STRETCH FIXED by a DIRECTION; NONE." */
    private static void wouldChangesNothing() {
        CHECK.part("promise 17, would");
        EightWays x = Check.netOf("s10 50;s30 50;s50 90;s70 90;e0 1;e1 2;e2 3;l0 3;");
        x.fix(1, 2);
        for (int e = 0; e < 3; e++) {
            for (int d = 0; d <= 7; d++) {
                String before = d % 4 == 0 ? "" + x.told(6) + x.told(10) + x.told(12) : "";
                int would = x.would(e, d);
                if (d % 4 == 0) {
                    CHECK.due("what is so", "" + x.told(6) + x.told(10) + x.told(12), before);
                }
                due("fix(" + e + ", " + d + ") as it would", x.fix(e, d), would);
                x.undo();
            }
        }
        due("told(12)", x.told(12), 1);
        due("stretch(1, 6)", x.stretch(1, 6), 2);
    }

    /** "A SET is a whole number, bit k for k"; "The k-th STRETCH of a LINE (from 0); NONE: not so many." */
    private static void alongAndSets() {
        CHECK.part("sets, and along lines");
        EightWays x = Check.netOf("s0 0;s9 0;s19 0;s29 0;e2 3;e1 2;e0 1;l0 3;l3 2;l1 2;");
        int[] carried = {3, 5, 1};
        int[][] along = {{2, 1, 0, NONE}, {0, NONE, NONE, NONE}, {1, NONE, NONE, NONE}};
        for (int i = 0; i < 3; i++) {
            due("stretch(" + i + ", 7)", x.stretch(i, 7), carried[i]);
            due("line(" + i + ", 2)", x.line(i, 2), i == 0 ? 3 : 1);
            for (int k = 0; k < 4; k++) {
                due("along(" + i + ", " + k + ")", x.along(i, k), along[i][k]);
            }
            due("along(" + i + ", 2147483647)", x.along(i, Integer.MAX_VALUE), NONE);
        }
        due("stretch(0, 7) of none", pair().stretch(0, 7), 0);
        int set = 0;
        for (int e : new int[] {2, 0, 1}) {
            set += 1 << e;
            x.fix(e, 0);
            due("told(10)", x.told(10), set);
        }
        x.loose(1);
        due("told(10)", x.told(10), 5);
    }
}
