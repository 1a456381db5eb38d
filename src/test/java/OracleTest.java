import java.util.ArrayList;
import java.util.Collections;
import java.util.List;
import java.util.Random;

/** Long runs of calls by lots, each answer compared with that of the plain Oracle. */
public final class OracleTest {
    private static final int RUNS = 700;

    private final Check check = new Check();
    private Random lots;
    private EightWays x;
    private Oracle o;

    public static void main(String[] args) {
        OracleTest test = new OracleTest();
        int runs = args.length > 0 ? Integer.parseInt(args[0]) : RUNS;
        int first = args.length > 1 ? Integer.parseInt(args[1]) : 0;
        for (int seed = first; seed < first + runs && test.check.isClean(); seed++) {
            test.run(seed);
        }
        test.check.end();
    }

    private void run(int seed) {
        check.part("run " + seed);
        lots = new Random(seed);
        x = new EightWays();
        o = new Oracle();
        int calls = 0;
        if (lots.nextInt(10) == 0) {
            calls += ask();
        }
        for (int text = 0; text < 3 && calls < 400; text++) {
            String net = seed % 7 == 0 ? longRow() : seed % 7 < 3 ? twoForks() : someNet();
            net = lots.nextInt(3) == 0 ? mixed(net) : net;
            calls += feed(lots.nextInt(4) == 0 ? spoiled(net) : net);
            check.due("net() of " + net, x.net(), o.net());
            check.due("fault(0) of " + net, x.fault(0), o.fault(0));
            check.due("fault(1) of " + net, x.fault(1), o.fault(1));
            calls += 3;
            calls += askAll();
            for (int i = 0; i < 30 && calls < 480; i++) {
                calls += lots.nextInt(3) == 0 ? act() : ask();
            }
        }
    }

    private int upTo(int n) {
        return lots.nextInt(n);
    }

    /** A number below n, now and then one beside the bounds or far out. */
    private int near(int n) {
        switch (lots.nextInt(25)) {
            case 0: return -1;
            case 1: return n;
            case 2: return new int[] {Integer.MIN_VALUE, Integer.MAX_VALUE, 1 << 20, -7}[upTo(4)];
            default: return upTo(Math.max(1, n));
        }
    }

    private int feed(String text) {
        for (int i = 0; i < text.length(); i++) {
            check.due("feed", x.feed(text.charAt(i)), o.feed(text.charAt(i)));
        }
        return text.length();
    }

    private String someNet() {
        int stations = upTo(9);
        int spread = new int[] {1, 3, 10, 99}[upTo(4)];
        StringBuilder t = new StringBuilder();
        for (int s = 0; s < stations; s++) {
            t.append(blanks()).append('s').append(blanks()).append(upTo(spread + 1)).append(' ').append(upTo(spread + 1)).append(blanks()).append(';');
        }
        int skipped = upTo(4) == 0 ? 1 : 99;
        for (int s = 1; s < stations; s++) {
            if (upTo(skipped + 1) != 0) {
                int t0 = upTo(3) == 0 ? 0 : upTo(s);
                t.append(upTo(2) == 0 ? "e" + t0 + " " + s + ";" : "e" + s + " " + t0 + ";");
            }
        }
        for (int l = 0; l < upTo(5) && stations > 1; l++) {
            int a = upTo(stations);
            t.append("l").append(a).append(' ').append((a + 1 + upTo(stations - 1)) % stations).append(';');
        }
        return t.toString();
    }

    /** All stations in a row, its stretches told in any order and either way, all lines along most of it. */
    private String longRow() {
        StringBuilder t = new StringBuilder();
        int stations = 4 + upTo(4);
        for (int s = 0; s < stations; s++) {
            t.append('s').append(upTo(100)).append(' ').append(upTo(100)).append(';');
        }
        int[] order = new int[stations - 1];
        for (int e = 0; e < order.length; e++) {
            int at = upTo(e + 1);
            order[e] = order[at];
            order[at] = e;
        }
        for (int e : order) {
            t.append(upTo(2) == 0 ? "e" + e + " " + (e + 1) + ";" : "e" + (e + 1) + " " + e + ";");
        }
        for (int l = 0; l < 3; l++) {
            int a = upTo(2);
            int b = stations - 1 - upTo(2);
            t.append(upTo(2) == 0 ? "l" + a + " " + b + ";" : "l" + b + " " + a + ";");
        }
        return t.toString();
    }

    /** A trunk that forks at both ends, lines from fork to fork: where lines cross most. */
    private String twoForks() {
        StringBuilder t = new StringBuilder();
        int trunk = 1 + upTo(3);
        int half = (8 - trunk - 1) / 2;
        int stations = trunk + 1 + 2 * half;
        for (int s = 0; s < stations; s++) {
            boolean inTrunk = s <= trunk;
            boolean atHead = s - trunk <= half;
            int far = inTrunk ? 30 + 10 * s : atHead ? upTo(20) : 70 + upTo(30);
            t.append('s').append(far).append(' ').append(inTrunk ? 50 : upTo(100)).append(';');
        }
        List<String> told = new ArrayList<>();
        for (int s = 1; s < stations; s++) {
            int other = s <= trunk ? s - 1 : s - trunk <= half ? 0 : trunk;
            told.add(upTo(2) == 0 ? "e" + other + " " + s + ";" : "e" + s + " " + other + ";");
        }
        Collections.shuffle(told, lots);
        told.forEach(t::append);
        for (int l = 0; l < 3; l++) {
            int a = trunk + 1 + upTo(half);
            int b = trunk + 1 + half + upTo(half);
            t.append(upTo(2) == 0 ? "l" + a + " " + b + ";" : "l" + b + " " + a + ";");
        }
        return t.toString();
    }

    /** The same stations in their order, stretches and lines among them, each as soon as it may be told or later. */
    private String mixed(String net) {
        List<String> waiting = new ArrayList<>(List.of(net.split("(?<=;)")));
        StringBuilder t = new StringBuilder();
        int[] group = {0, 1, 2, 3, 4, 5, 6, 7};
        int told = 0;
        while (!waiting.isEmpty()) {
            List<String> next = new ArrayList<>();
            boolean stationDue = true;
            for (String clause : waiting) {
                boolean station = clause.trim().startsWith("s");
                if (station ? stationDue : mayBeTold(clause, told, group)) {
                    next.add(clause);
                }
                stationDue &= !station;
            }
            String clause = next.isEmpty() ? waiting.get(0) : next.get(upTo(next.size()));
            waiting.remove(clause);
            t.append(clause);
            told += clause.trim().startsWith("s") ? 1 : 0;
            if (clause.startsWith("e")) {
                join(group, end(clause, 0), end(clause, 1));
            }
        }
        return t.toString();
    }

    private static boolean mayBeTold(String clause, int told, int[] group) {
        if (clause.isBlank() || Math.max(end(clause, 0), end(clause, 1)) >= told) {
            return false;
        }
        return clause.startsWith("e") || group[end(clause, 0)] == group[end(clause, 1)];
    }

    private static void join(int[] group, int a, int b) {
        int left = group[b];
        for (int s = 0; s < group.length; s++) {
            group[s] = group[s] == left ? group[a] : group[s];
        }
    }

    private static int end(String clause, int which) {
        return Integer.parseInt(clause.substring(1, clause.length() - 1).split(" ")[which]);
    }

    private String blanks() {
        return upTo(12) == 0 ? "  ".substring(upTo(2)) : "";
    }

    private String spoiled(String text) {
        StringBuilder t = new StringBuilder(text);
        for (int i = 0; i < 1 + upTo(2); i++) {
            int at = upTo(t.length() + 1);
            char letter = "sel;  0123456789x\u00e9".charAt(upTo(18));
            if (upTo(3) == 0 || at == t.length()) {
                t.insert(at, letter);
            } else if (upTo(2) == 0) {
                t.setCharAt(at, letter);
            } else {
                t.setLength(at);
            }
        }
        return t.toString();
    }

    private int act() {
        int a = near(8);
        int b = near(8);
        switch (upTo(9)) {
            case 0: check.due("fix " + a + " " + b, x.fix(a, b), o.fix(a, b)); break;
            case 1: check.due("loose " + a, x.loose(a), o.loose(a)); break;
            case 2: a = near(2); b = near(a == 0 ? 4 : 10); check.due("count " + a + " " + b, x.count(a, b), o.count(a, b)); break;
            case 3: b = near(100); int c = near(100); check.due("move " + a + " " + b + " " + c, x.move(a, b, c), o.move(a, b, c)); break;
            case 4: a = near(1000000); check.due("drift " + a, x.drift(a), o.drift(a)); break;
            case 5: check.due("undo", x.undo(), o.undo()); break;
            case 6: a = near(2); check.due("keep " + a, x.keep(a), o.keep(a)); break;
            case 7: a = near(2); check.due("goBack " + a, x.goBack(a), o.goBack(a)); break;
            default: a = near(256); check.due("feed " + a, x.feed(a), o.feed(a)); x.net(); o.net(); break;
        }
        return 2;
    }

    private int ask() {
        int a = near(8);
        int b = near(8);
        switch (upTo(13)) {
            case 0: a = near(13); check.due("told " + a, x.told(a), o.told(a)); break;
            case 1: b = near(7); check.due("station " + a + " " + b, x.station(a, b), o.station(a, b)); break;
            case 2: check.due("stretch " + a + " " + b, x.stretch(a, b), o.stretch(a, b)); break;
            case 3: a = near(3); b = near(4); check.due("line " + a + " " + b, x.line(a, b), o.line(a, b)); break;
            case 4: a = near(3); check.due("along " + a + " " + b, x.along(a, b), o.along(a, b)); break;
            case 5: a = near(4); b = near(5); check.due("bend " + a + " " + b, x.bend(a, b), o.bend(a, b)); break;
            case 6: check.due("would " + a + " " + b, x.would(a, b), o.would(a, b)); break;
            case 7: check.due("plans", x.plans(), o.plans()); break;
            case 8: b = near(3); check.due("order " + a + " " + b, x.order(a, b), o.order(a, b)); break;
            case 9: check.due("crossings " + a, x.crossings(a), o.crossings(a)); break;
            case 10: a = near(3); b = near(3); check.due("cross " + a + " " + b, x.cross(a, b), o.cross(a, b)); break;
            case 11: a = near(2); check.due("fault " + a, x.fault(a), o.fault(a)); break;
            default: return askAll();
        }
        return 1;
    }

    private int askAll() {
        int calls = 14;
        for (int what = 0; what < 13; what++) {
            check.due("told " + what, x.told(what), o.told(what));
        }
        check.due("plans", x.plans(), o.plans());
        int s = upTo(8);
        for (int what = 2; what < 7; what++) {
            check.due("station " + s + " " + what, x.station(s, what), o.station(s, what));
        }
        int e = upTo(7);
        for (int what = 0; what < 8; what++) {
            check.due("stretch " + e + " " + what, x.stretch(e, what), o.stretch(e, what));
        }
        for (int i = 0; i < 3; i++) {
            check.due("order " + e + " " + i, x.order(e, i), o.order(e, i));
            check.due("cross " + i, x.cross(i, (i + 1) % 3), o.cross(i, (i + 1) % 3));
        }
        check.due("crossings " + s, x.crossings(s), o.crossings(s));
        return calls + 20;
    }
}
