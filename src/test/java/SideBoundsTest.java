import java.util.Arrays;

/** The bounds of orders, crossings and signs, sentence by sentence: the first half of part 3 of the terms, promises 19 to 21. */
public final class SideBoundsTest {
    private static final int NONE = -1, UNKNOWN = -1000000001;

    private static final Check CHECK = new Check();

    public static void main(String[] args) {
        greaterTurnToTheLeft();
        leftAsOneGoesFromAToB();
        linesToldEitherWay();
        threeLinesInAnyOrder();
        threeLinesFromAnyToAnyOrder();
        changeOfSidesIsACrossing();
        orderAcrossTellings();
        wrongSideIsACrossing();
        endingLinesDontCross();
        linesWithoutAStretchInCommonDontCross();
        lookedAtOnce();
        mostCrossings();
        crossingsWhereTheyAre();
        theLeastCrossings();
        ordersTheFirst();
        placesInAnOrder();
        noLines();
        twoLines();
        crossingsByBest();
        signsTheFirstFree();
        signsBesideStations();
        signsOfOtherTrees();
        signsFarOff();
        CHECK.end();
    }

    private static void due(String call, long got, long want) {
        CHECK.due(call, got, want);
    }

    private static void orderIs(EightWays x, int e, int... want) {
        for (int i = 0; i < want.length; i++) {
            due("order(" + e + ", " + i + ")", x.order(e, i), want[i]);
        }
        due("order(" + e + ", behind)", x.order(e, want.length), NONE);
    }

    /** Stations at one place; stretches as told, fixed. */
    private static EightWays fixedNet(int stations, String told, int... directions) {
        EightWays x = Check.netOf("s5 5;".repeat(stations) + told);
        for (int e = 0; e < directions.length; e++) {
            x.fix(e, Math.floorMod(directions[e], 8));
        }
        return x;
    }

    /** "TURN .. by how many eighths its DIRECTION is more (-3 .. 3)", "the one of the greater TURN is not the one to the left" */
    private static void greaterTurnToTheLeft() {
        CHECK.part("the greater turn to the left");
        for (int d = 0; d < 8; d++) {
            for (int t = -3; t <= 3; t++) {
                for (int u = -3; u <= 3; u++) {
                    if (t != u) {
                        EightWays x = fixedNet(4, "e0 1;e1 2;e1 3;l0 2;l0 3;", d, d + t, d + u);
                        due("told(9)", x.told(9), 0);
                        due("order(0, 0) along " + d + " by turns " + t + ", " + u, x.order(0, 0), t > u ? 0 : 1);
                        due("order(0, 1) along " + d + " by turns " + t + ", " + u, x.order(0, 1), t > u ? 1 : 0);
                    }
                }
            }
        }
    }

    /** "from its left to its right, as one goes from A to B" */
    private static void leftAsOneGoesFromAToB() {
        CHECK.part("left and right from A to B");
        for (int d = 0; d < 8; d++) {
            // the trunk is told from the fork, the branches to it
            EightWays x = fixedNet(4, "e1 0;e2 1;e3 1;l0 2;l0 3;", d + 4, d + 3 + 4, d - 3 + 4);
            orderIs(x, 0, 1, 0);
            orderIs(x, 1, 0);
            orderIs(x, 2, 1);
            due("told(9)", x.told(9), 0);
            EightWays y = fixedNet(4, "e1 0;e2 1;e1 3;l0 2;l0 3;", d + 4, d - 3 + 4, d + 3);
            orderIs(y, 0, 0, 1);
            due("told(9)", y.told(9), 0);
        }
    }

    /** A way through a station is the same way, whichever end the line is told from. */
    private static void linesToldEitherWay() {
        CHECK.part("lines told either way");
        for (String lines : new String[] {"l0 2;l0 3;", "l2 0;l0 3;", "l0 2;l3 0;", "l2 0;l3 0;"}) {
            EightWays x = fixedNet(4, "e0 1;e1 2;e1 3;" + lines, 0, 7, 1);
            orderIs(x, 0, 1, 0);
            due("told(9) of " + lines, x.told(9), 0);
        }
    }

    private static final int[][] ORDERS = {{0, 1, 2}, {0, 2, 1}, {1, 0, 2}, {1, 2, 0}, {2, 0, 1}, {2, 1, 0}};

    /** Two stretches, then a fork of three: each of the six orders, however the stretches are told. */
    private static void threeLinesInAnyOrder() {
        CHECK.part("three lines in any order");
        for (int[] left : ORDERS) {
            // line left[i] goes to station 3 + i, which are from the left to the right
            StringBuilder lines = new StringBuilder();
            for (int l = 0; l < 3; l++) {
                lines.append(l == 1 ? "l" + (3 + placeOf(left, l)) + " 0;" : "l0 " + (3 + placeOf(left, l)) + ";");
            }
            for (int told = 0; told < 4; told++) {
                String first = told % 2 == 0 ? "e0 1;" : "e1 0;";
                String second = told < 2 ? "e1 2;" : "e2 1;";
                EightWays x = fixedNet(6, "e2 3;e2 4;e2 5;" + second + first + lines, 2, 1, 0, told < 2 ? 1 : 5, told % 2 == 0 ? 1 : 5);
                due("told(9)", x.told(9), 0);
                for (int i = 0; i < 3; i++) {
                    due("order(" + i + ", 0)", x.order(i, 0), left[i]);
                    due("order(3, " + i + ") of " + second, x.order(3, told < 2 ? i : 2 - i), left[i]);
                    due("order(4, " + i + ") of " + first, x.order(4, told % 2 == 0 ? i : 2 - i), left[i]);
                }
            }
        }
    }

    private static int placeOf(int[] order, int line) {
        return order[0] == line ? 0 : order[1] == line ? 1 : 2;
    }

    private static boolean isChanged(int[] order, int[] other, int l, int m) {
        return placeOf(order, l) < placeOf(order, m) != placeOf(other, l) < placeOf(other, m);
    }

    private static int changes(int[] order, int[] other) {
        int found = 0;
        for (int l = 0; l < 3; l++) {
            for (int m = l + 1; m < 3; m++) {
                found += isChanged(order, other, l, m) ? 1 : 0;
            }
        }
        return found;
    }

    /** Threefold forks at both ends of a trunk: as many cross as change sides, and the trunk has the first of the best orders. */
    private static void threeLinesFromAnyToAnyOrder() {
        CHECK.part("three lines from any order to any order");
        for (int[] from : ORDERS) {
            for (int[] to : ORDERS) {
                StringBuilder lines = new StringBuilder();
                for (int l = 0; l < 3; l++) {
                    lines.append('l').append(2 + placeOf(from, l)).append(' ').append(5 + placeOf(to, l)).append(';');
                }
                EightWays x = fixedNet(8, "e0 2;e0 1;e0 3;e0 4;e1 5;e1 6;e1 7;" + lines, 3, 0, 4, 5, 1, 0, 7);
                int crossings = changes(from, to);
                due("told(9)", x.told(9), crossings);
                int[] first = null;
                for (int i = 5; i >= 0; i--) {
                    first = changes(from, ORDERS[i]) + changes(ORDERS[i], to) == crossings ? ORDERS[i] : first;
                }
                orderIs(x, 1, first);
                due("crossings(0)", x.crossings(0), changes(from, first));
                due("crossings(1)", x.crossings(1), changes(first, to));
                for (int l = 0; l < 3; l++) {
                    int m = (l + 1) % 3;
                    due("cross(" + l + ", " + m + ")", x.cross(l, m), isChanged(from, to, l, m) ? 1 : 0);
                }
            }
        }
    }

    /** Forks 0: 2, 3 and 1: 4, 5, a trunk from 0 to 1 in direction 0; 2, 4 are to the left. */
    private static EightWays forks(String lines) {
        return fixedNet(6, "e0 1;e0 2;e0 3;e1 4;e1 5;" + lines, 0, 3, 5, 1, 7);
    }

    /** A trunk 1 - 0 - 2 in direction 0, with forks 1: 3, 4 and 2: 5, 6; 3, 5 are to the left. */
    private static EightWays longForks(String trunk, int first, int second, String lines) {
        return fixedNet(7, trunk + "e1 3;e1 4;e2 5;e2 6;" + lines, first, second, 3, 5, 1, 7);
    }

    /** "CROSS there, if they go on along one and change sides (seen as one goes on)" */
    private static void changeOfSidesIsACrossing() {
        CHECK.part("sides changed");
        EightWays x = longForks("e1 0;e2 0;", 0, 4, "l3 6;l4 5;");
        // 1 - 0 has line 0 to the left, as its fork wants; 2 - 0 the same way, seen from the other side
        orderIs(x, 0, 0, 1);
        orderIs(x, 1, 0, 1);
        due("crossings(0)", x.crossings(0), 1);
        due("crossings(1)", x.crossings(1), 0);
        due("crossings(2)", x.crossings(2), 0);
        due("told(9)", x.told(9), 1);
        EightWays y = longForks("e1 0;e0 2;", 0, 0, "l3 6;l4 5;");
        orderIs(y, 0, 0, 1);
        orderIs(y, 1, 0, 1);
        due("crossings(0)", y.crossings(0), 0);
        due("crossings(2)", y.crossings(2), 1);
        due("told(9)", y.told(9), 1);
    }

    /** Lines that keep their sides have them in one order, where stretches are told on, in turn, where not. */
    private static void orderAcrossTellings() {
        CHECK.part("sides kept");
        String[] trunks = {"e1 0;e0 2;", "e1 0;e2 0;", "e0 1;e0 2;", "e0 1;e2 0;"};
        for (int n = 0; n < 4; n++) {
            boolean on = n < 2;
            boolean onToo = n % 2 == 0;
            EightWays x = longForks(trunks[n], on ? 0 : 4, onToo ? 0 : 4, "l3 5;l6 4;");
            orderIs(x, 0, on ? 0 : 1, on ? 1 : 0);
            orderIs(x, 1, onToo ? 0 : 1, onToo ? 1 : 0);
            due("told(9) of " + trunks[n], x.told(9), 0);
        }
    }

    /** "or along two, and the one of the greater TURN is not the one to the left" */
    private static void wrongSideIsACrossing() {
        CHECK.part("the wrong side");
        EightWays x = forks("l2 5;l3 4;");
        orderIs(x, 0, 0, 1);
        due("crossings(0)", x.crossings(0), 0);
        due("crossings(1)", x.crossings(1), 1);
        due("cross(0, 1)", x.cross(0, 1), 1);
        due("cross(1, 0)", x.cross(1, 0), 1);
        EightWays y = forks("l3 4;l2 5;");
        orderIs(y, 0, 0, 1);
        due("crossings(0)", y.crossings(0), 1);
        due("crossings(1)", y.crossings(1), 0);
        due("told(9) side by side", forks("l2 4;l3 5;").told(9), 0);
    }

    /** "Two LINES that both come to a STATION along one STRETCH and both go on" */
    private static void endingLinesDontCross() {
        CHECK.part("lines that end");
        due("told(9): one ends at the fork", forks("l2 1;l3 4;").told(9), 0);
        due("told(9): one begins at the trunk", forks("l0 5;l3 4;").told(9), 0);
        due("told(9): both end", forks("l2 1;l3 1;").told(9), 0);
        due("told(9): the trunk alone", forks("l0 1;l1 0;l0 1;").told(9), 0);
        EightWays x = forks("l2 1;l3 4;l5 3;");
        due("told(9)", x.told(9), 0);
        orderIs(x, 0, 0, 1, 2);
    }

    /** Ways through a station that share no stretch are never looked at. */
    private static void linesWithoutAStretchInCommonDontCross() {
        CHECK.part("no stretch in common");
        EightWays x = fixedNet(5, "e0 1;e0 2;e0 3;e0 4;l1 3;l2 4;", 0, 2, 4, 6);
        due("told(9)", x.told(9), 0);
        due("crossings(0)", x.crossings(0), 0);
        due("cross(0, 1)", x.cross(0, 1), 0);
    }

    /** "Each such pair of ways through a STATION is looked at once" */
    private static void lookedAtOnce() {
        CHECK.part("looked at once");
        // a station in between, through which both go along the same two stretches
        EightWays x = longForks("e0 1;e0 2;", 4, 0, "l3 6;l5 4;");
        due("told(9)", x.told(9), 1);
        int sum = 0;
        for (int s = 0; s < 7; s++) {
            sum += x.crossings(s);
        }
        due("crossings of all stations", sum, 1);
        due("cross(0, 1)", x.cross(0, 1), 1);
        // lines that never part and never change
        due("told(9) of like lines", longForks("e0 1;e0 2;", 4, 0, "l3 6;l6 3;l3 6;").told(9), 0);
    }

    /** One of three changes sides with both others. */
    private static void mostCrossings() {
        CHECK.part("two crossings");
        EightWays x = forks("l2 5;l3 4;l5 2;");
        due("told(9)", x.told(9), 2);
        due("cross(0, 1)", x.cross(0, 1), 1);
        due("cross(1, 2)", x.cross(1, 2), 1);
        due("cross(2, 0)", x.cross(2, 0), 0);
        // turned about between threefold forks: each line crosses each other
        EightWays y = fixedNet(8, "e0 1;e0 2;e0 3;e0 4;e1 5;e1 6;e1 7;l2 7;l3 6;l4 5;", 0, 3, 4, 5, 1, 0, 7);
        due("told(9)", y.told(9), 3);
        due("cross(0, 1)", y.cross(0, 1), 1);
        due("cross(0, 2)", y.cross(0, 2), 1);
        due("cross(1, 2)", y.cross(1, 2), 1);
        orderIs(y, 0, 0, 1, 2);
        due("crossings(0)", y.crossings(0), 0);
        due("crossings(1)", y.crossings(1), 3);
    }

    /** "How many CROSSINGS there are by these ORDERS at a STATION": all of them together are those told. */
    private static void crossingsWhereTheyAre() {
        CHECK.part("crossings by station and by lines");
        EightWays x = forks("l2 5;l3 4;l4 2;");
        int byStations = 0;
        for (int s = 0; s < 6; s++) {
            byStations += x.crossings(s);
        }
        due("crossings by stations", byStations, x.told(9));
        due("crossings by lines", x.cross(0, 1) + x.cross(0, 2) + x.cross(1, 2), x.told(9));
        due("told(9)", x.told(9), 1);
        due("crossings(-1)", x.crossings(-1), UNKNOWN);
        due("crossings(6)", x.crossings(6), UNKNOWN);
    }

    /** "by ORDERS of all STRETCHES together the least that can be" */
    private static void theLeastCrossings() {
        CHECK.part("the least crossings");
        // the least order at fork 0 would be 0, 1: it is not taken, where 1, 0 spares a crossing
        EightWays x = forks("l3 5;l2 4;");
        due("told(9)", x.told(9), 0);
        orderIs(x, 0, 1, 0);
        // line 2 ends in the trunk: it stands wherever it hinders none
        EightWays y = forks("l3 5;l2 4;l0 1;");
        due("told(9)", y.told(9), 0);
        orderIs(y, 0, 1, 0, 2);
    }

    /** "ORDERS then: the first (STRETCH by STRETCH, by LINES from the left, the least)" */
    private static void ordersTheFirst() {
        CHECK.part("of like orders the first");
        String row = "e0 1;e1 2;e2 3;";
        for (String lines : new String[] {"l0 3;l0 3;l0 3;", "l3 0;l0 3;l3 0;", "l0 2;l1 3;l3 0;"}) {
            EightWays x = fixedNet(4, row + lines, 0, 0, 0);
            orderIs(x, 1, 0, 1, 2);
            due("told(9) of " + lines, x.told(9), 0);
        }
        // the earlier stretch has the least order, those behind it follow
        EightWays turned = fixedNet(4, "e1 2;e1 0;e3 2;l0 3;l0 3;l0 3;", 0, 4, 4);
        orderIs(turned, 0, 0, 1, 2);
        orderIs(turned, 1, 2, 1, 0);
        orderIs(turned, 2, 2, 1, 0);
        // where one crossing must be, it is where the earlier stretch has the least order
        EightWays x = longForks("e2 0;e1 0;", 4, 0, "l3 6;l4 5;");
        orderIs(x, 0, 0, 1);
        orderIs(x, 1, 0, 1);
        due("crossings(0)", x.crossings(0), 1);
    }

    /** "Place i (from the left) .. NONE: not so many" */
    private static void placesInAnOrder() {
        CHECK.part("promise 19, places");
        EightWays x = forks("l2 5;l2 1;l0 1;");
        orderIs(x, 0, 0, 1, 2);
        // both stretches are told from station 0
        orderIs(x, 1, 1, 0);
        orderIs(x, 4, 0);
        orderIs(x, 2);
        for (int e = 0; e < 5; e++) {
            due("order(" + e + ", 3)", x.order(e, 3), NONE);
            due("order(" + e + ", 2147483647)", x.order(e, Integer.MAX_VALUE), NONE);
        }
    }

    private static void noLines() {
        CHECK.part("no lines");
        EightWays x = forks("");
        due("told(9)", x.told(9), 0);
        for (int e = 0; e < 5; e++) {
            orderIs(x, e);
        }
        for (int s = 0; s < 6; s++) {
            due("crossings(" + s + ")", x.crossings(s), 0);
        }
        due("cross(0, 1)", x.cross(0, 1), UNKNOWN);
    }

    /** "UNKNOWN (.. one twice, where two are asked)" */
    private static void twoLines() {
        CHECK.part("promise 21, two lines");
        for (int lines = 0; lines <= 3; lines++) {
            EightWays x = forks("l2 4;".repeat(lines));
            for (int l = -1; l <= 3; l++) {
                for (int m = -1; m <= 3; m++) {
                    boolean known = l >= 0 && m >= 0 && l < lines && m < lines && l != m;
                    due("cross(" + l + ", " + m + ") of " + lines, x.cross(l, m), known ? 0 : UNKNOWN);
                }
            }
        }
    }

    /** "By BEST": orders and crossings follow each change. */
    private static void crossingsByBest() {
        CHECK.part("orders follow the best plan");
        EightWays x = forks("l2 5;l3 4;");
        due("told(9)", x.told(9), 1);
        x.fix(3, 6);
        due("told(9): branches still the other way", x.told(9), 0);
        x.undo();
        due("told(9)", x.told(9), 1);
        x.fix(4, 1);
        due("told(9): no plan", x.told(9), NONE);
        due("crossings(1)", x.crossings(1), NONE);
        due("cross(0, 1)", x.cross(0, 1), NONE);
        due("order(0, 0)", x.order(0, 0), NONE);
        due("order(0, 2)", x.order(0, 2), NONE);
        x.undo();
        due("crossings(1)", x.crossings(1), 1);
    }

    /** "the first of DIRECTIONS 0 .. 7 in which no STRETCH goes from it" */
    private static void signsTheFirstFree() {
        CHECK.part("signs, the first free direction");
        // stretches from station 0 in 0, 1, .. one more each time
        StringBuilder told = new StringBuilder();
        int[] directions = new int[0];
        for (int n = 1; n <= 7; n++) {
            told.append("e0 ").append(n).append(';');
            directions = Arrays.copyOf(directions, n);
            directions[n - 1] = n - 1;
            EightWays x = fixedNet(n + 1, told.toString(), directions);
            due("station(0, 6) with " + n, x.station(0, 6), n);
            due("told(11)", x.told(11), n + 1);
        }
        // told to the station it goes from it the opposite way
        EightWays to = fixedNet(3, "e1 0;e2 0;", 4, 5);
        due("station(0, 6)", to.station(0, 6), 2);
    }

    /** "and beside it, one in that DIRECTION, no STATION of its tree lies" */
    private static void signsBesideStations() {
        CHECK.part("signs, stations beside");
        // a square but for its last side: 0 at 0 0, 1 at 1 0, 2 at 1 1, 3 at 0 1
        EightWays x = fixedNet(4, "e0 1;e1 2;e2 3;", 0, 2, 4);
        int[] signs = {3, 0, 0, 1};
        for (int s = 0; s < 4; s++) {
            due("station(" + s + ", 6)", x.station(s, 6), signs[s]);
        }
        // station 0 is in direction 0 of station 3, station 1 in direction 1
        EightWays first = fixedNet(4, "e0 1;e1 2;e2 3;", 2, 4, 6);
        due("station(3, 6)", first.station(3, 6), 3);
        // station 3 is in direction 2 of station 0, station 2 in direction 1: without them 1 would be free
        EightWays y = fixedNet(2, "e0 1;", 0);
        due("station(0, 6)", y.station(0, 6), 1);
        due("station(1, 6)", y.station(1, 6), 0);
    }

    private static void signsOfOtherTrees() {
        CHECK.part("signs, other trees");
        // the other tree's stations lie at 0 0 and 1 1 of their own
        EightWays x = fixedNet(4, "e0 1;e2 3;", 0, 1);
        due("station(0, 6)", x.station(0, 6), 1);
        due("station(1, 6)", x.station(1, 6), 0);
        due("station(2, 6)", x.station(2, 6), 0);
        due("station(3, 6)", x.station(3, 6), 0);
        due("told(11)", x.told(11), 4);
    }

    private static void signsFarOff() {
        CHECK.part("signs, stations two away");
        // 0 at 0 0, 1 at 0 1, 2 at 1 1, 3 at 2 1, 4 at 2 0: two to the right of station 0 there is one, beside it none
        EightWays x = fixedNet(5, "e0 1;e1 2;e2 3;e3 4;", 2, 0, 0, 6);
        due("station(4, 4)", x.station(4, 4), 2);
        due("station(4, 5)", x.station(4, 5), 0);
        due("station(0, 6)", x.station(0, 6), 0);
        // a longer stretch takes its direction, though no station lies beside: from either end
        EightWays y = fixedNet(5, "e0 1;e0 2;e0 3;e2 4;", 0, 1, 7, 6);
        due("stretch(1, 5)", y.stretch(1, 5), 2);
        due("station(0, 6)", y.station(0, 6), 2);
        EightWays first = fixedNet(6, "e0 1;e1 2;e0 3;e0 4;e1 5;", 0, 2, 6, 1, 5);
        due("stretch(0, 5)", first.stretch(0, 5), 2);
        due("station(0, 6)", first.station(0, 6), 2);
        EightWays z = fixedNet(5, "e1 0;e2 0;e3 0;e4 2;", 4, 5, 3, 2);
        due("stretch(1, 5)", z.stretch(1, 5), 2);
        due("station(0, 6)", z.station(0, 6), 2);
    }
}
