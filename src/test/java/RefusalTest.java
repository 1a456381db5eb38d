import java.util.ArrayList;
import java.util.List;
import java.util.function.Supplier;
import java.util.function.ToIntFunction;

/**
 * Each refusal, in several states: which of several comes first, and that nothing has changed behind it.
 * "REFUSALS, of several the first in this order: UNKNOWN, OUTSIDE, NOT, FULL. What is refused changes nothing."
 */
public final class RefusalTest {
    private static final int UNKNOWN = -1000000001, OUTSIDE = -1000000002, NOT = -1000000003, FULL = -1000000004;
    private static final int LEAST = Integer.MIN_VALUE, MOST = Integer.MAX_VALUE;

    private record Call(String name, int answer, ToIntFunction<EightWays> made) { }

    private static final Check CHECK = new Check();
    private static final List<Call> CALLS = new ArrayList<>();

    public static void main(String[] args) {
        constants();
        in("a new object", EightWays::new, 0, 0, 0);
        in("no plan", RefusalTest::withoutPlan, 3, 2, 1);
        in("much to be undone", RefusalTest::muchDone, 6, 5, 2);
        in("sixteen to be undone", RefusalTest::sixteenDone, 6, 5, 2);
        in("a full net", RefusalTest::fullNet, 8, 7, 3);
        fullText();
        nothingToUndo();
        notFixed();
        notKept();
        noStations();
        takenAtTheBounds();
        CHECK.end();
    }

    private static void constants() {
        CHECK.part("the face");
        CHECK.due("NONE", EightWays.NONE, -1);
        CHECK.due("UNKNOWN", EightWays.UNKNOWN, UNKNOWN);
        CHECK.due("OUTSIDE", EightWays.OUTSIDE, OUTSIDE);
        CHECK.due("NOT", EightWays.NOT, NOT);
        CHECK.due("FULL", EightWays.FULL, FULL);
    }

    // ---- states

    private static EightWays withoutPlan() {
        EightWays x = Check.netOf("s0 0;s9 0;s9 9;e0 1;e1 2;l0 2;");
        x.keep(1);
        x.fix(0, 0);
        x.fix(1, 4);
        return x;
    }

    /** Image 0 is kept, image 1 is not; a text has begun. */
    private static EightWays muchDone() {
        EightWays x = Check.netOf("s40 50;s60 50;s20 70;s20 30;s80 70;s80 30;e0 1;e0 2;e0 3;e1 4;e1 5;l2 5;l3 4;");
        x.count(0, 1);
        x.keep(0);
        x.fix(1, 4);
        x.count(1, 3);
        x.move(2, 10, 90);
        x.fix(0, 7);
        x.loose(1);
        Check.feed(x, "s1 2");
        return x;
    }

    private static EightWays sixteenDone() {
        EightWays x = muchDone();
        for (int n = 1; n <= 16; n++) {
            x.move(n % 6, 3 * n, 50 - n);
        }
        return x;
    }

    private static EightWays fullNet() {
        EightWays x = Check.netOf("s0 0;s10 0;s20 0;s30 0;s40 9;s50 0;s60 0;s70 0;e0 1;e1 2;e2 3;e3 4;e4 5;e5 6;e6 7;l0 7;l7 1;l2 5;");
        x.fix(6, 1);
        x.keep(0);
        x.keep(1);
        x.drift(999999);
        return x;
    }

    // ---- calls that are refused in a state with so many stations, stretches and lines

    private static void in(String state, Supplier<EightWays> made, int stations, int stretches, int lines) {
        CHECK.part(state);
        CALLS.clear();
        unknownStations(stations);
        unknownStretches(stretches);
        unknownLines(lines);
        unknownImages();
        outsideOfStations(stations);
        outsideOfStretches(stretches);
        outsideOfLines(lines);
        outside();
        refuseAll(made);
    }

    private static void refused(String name, int answer, ToIntFunction<EightWays> made) {
        CALLS.add(new Call(name, answer, made));
    }

    private static void refuseAll(Supplier<EightWays> made) {
        for (Snapshot.After after : Snapshot.AFTER) {
            String untouched = after.of(made.get());
            for (Call call : CALLS) {
                EightWays x = made.get();
                CHECK.due(call.name, call.made.applyAsInt(x), call.answer);
                CHECK.due("what is so behind " + call.name, after.of(x), untouched);
            }
        }
    }

    /** Numbers that there are not, of so many: those beside the bounds and far out. */
    private static int[] beyond(int many) {
        return new int[] {-1, many, LEAST, MOST};
    }

    private static void unknownStations(int stations) {
        for (int s : beyond(stations)) {
            for (int what : new int[] {0, 6, 7, -1, LEAST, MOST}) {
                refused("station(" + s + ", " + what + ")", UNKNOWN, x -> x.station(s, what));
            }
            for (int v : new int[] {0, 99, 100, -1}) {
                refused("move(" + s + ", " + v + ", 0)", UNKNOWN, x -> x.move(s, v, 0));
                refused("move(" + s + ", 0, " + v + ")", UNKNOWN, x -> x.move(s, 0, v));
            }
            refused("crossings(" + s + ")", UNKNOWN, x -> x.crossings(s));
        }
    }

    private static void unknownStretches(int stretches) {
        for (int e : beyond(stretches)) {
            for (int v : new int[] {0, 7, 8, -1, LEAST, MOST}) {
                refused("stretch(" + e + ", " + v + ")", UNKNOWN, x -> x.stretch(e, v));
                refused("fix(" + e + ", " + v + ")", UNKNOWN, x -> x.fix(e, v));
                refused("would(" + e + ", " + v + ")", UNKNOWN, x -> x.would(e, v));
                refused("order(" + e + ", " + v + ")", UNKNOWN, x -> x.order(e, v));
            }
            refused("loose(" + e + ")", UNKNOWN, x -> x.loose(e));
        }
    }

    private static void unknownLines(int lines) {
        for (int l : beyond(lines)) {
            for (int v : new int[] {0, 3, 4, -1, LEAST, MOST}) {
                refused("line(" + l + ", " + v + ")", UNKNOWN, x -> x.line(l, v));
                refused("along(" + l + ", " + v + ")", UNKNOWN, x -> x.along(l, v));
            }
            for (int other : new int[] {0, 1, 2, 3, -1, l}) {
                refused("cross(" + l + ", " + other + ")", UNKNOWN, x -> x.cross(l, other));
                refused("cross(" + other + ", " + l + ")", UNKNOWN, x -> x.cross(other, l));
            }
        }
        for (int l = 0; l < lines; l++) {
            int twice = l;
            refused("cross(" + l + ", " + l + ")", UNKNOWN, x -> x.cross(twice, twice));
        }
    }

    private static void unknownImages() {
        for (int i : beyond(2)) {
            refused("keep(" + i + ")", UNKNOWN, x -> x.keep(i));
            refused("goBack(" + i + ")", UNKNOWN, x -> x.goBack(i));
        }
    }

    private static void outsideOfStations(int stations) {
        for (int s = 0; s < stations; s += Math.max(1, stations - 1)) {
            int known = s;
            for (int what : beyond(7)) {
                refused("station(" + s + ", " + what + ")", OUTSIDE, x -> x.station(known, what));
            }
            for (int v : beyond(100)) {
                refused("move(" + s + ", " + v + ", 0)", OUTSIDE, x -> x.move(known, v, 0));
                refused("move(" + s + ", 99, " + v + ")", OUTSIDE, x -> x.move(known, 99, v));
                refused("move(" + s + ", " + v + ", " + v + ")", OUTSIDE, x -> x.move(known, v, v));
            }
        }
    }

    private static void outsideOfStretches(int stretches) {
        for (int e = 0; e < stretches; e += Math.max(1, stretches - 1)) {
            int known = e;
            for (int v : beyond(8)) {
                refused("stretch(" + e + ", " + v + ")", OUTSIDE, x -> x.stretch(known, v));
                refused("fix(" + e + ", " + v + ")", OUTSIDE, x -> x.fix(known, v));
                refused("would(" + e + ", " + v + ")", OUTSIDE, x -> x.would(known, v));
            }
            for (int i : new int[] {-1, -2, LEAST}) {
                refused("order(" + e + ", " + i + ")", OUTSIDE, x -> x.order(known, i));
            }
        }
    }

    private static void outsideOfLines(int lines) {
        for (int l = 0; l < lines; l += Math.max(1, lines - 1)) {
            int known = l;
            for (int what : beyond(4)) {
                refused("line(" + l + ", " + what + ")", OUTSIDE, x -> x.line(known, what));
            }
            for (int k : new int[] {-1, -2, LEAST}) {
                refused("along(" + l + ", " + k + ")", OUTSIDE, x -> x.along(known, k));
            }
        }
    }

    private static void outside() {
        for (int what : beyond(13)) {
            refused("told(" + what + ")", OUTSIDE, x -> x.told(what));
        }
        for (int what : beyond(2)) {
            refused("fault(" + what + ")", OUTSIDE, x -> x.fault(what));
            refused("count(" + what + ", 0)", OUTSIDE, x -> x.count(what, 0));
            refused("count(" + what + ", 99)", OUTSIDE, x -> x.count(what, 99));
        }
        for (int v : beyond(4)) {
            refused("count(0, " + v + ")", OUTSIDE, x -> x.count(0, v));
            refused("bend(" + v + ", 0)", OUTSIDE, x -> x.bend(v, 0));
        }
        for (int v : beyond(10)) {
            refused("count(1, " + v + ")", OUTSIDE, x -> x.count(1, v));
        }
        for (int n : beyond(5)) {
            refused("bend(3, " + n + ")", OUTSIDE, x -> x.bend(3, n));
            refused("bend(4, " + n + ")", OUTSIDE, x -> x.bend(4, n));
        }
        for (int seed : new int[] {0, -1, 1000000, LEAST, MOST}) {
            refused("drift(" + seed + ")", OUTSIDE, x -> x.drift(seed));
        }
        for (int letter : beyond(256)) {
            refused("feed(" + letter + ")", OUTSIDE, x -> x.feed(letter));
        }
    }

    // ---- not now, full

    /** "OUTSIDE, FULL (240)." */
    private static void fullText() {
        for (Supplier<EightWays> made : List.<Supplier<EightWays>>of(
                () -> filled(new EightWays()), () -> filled(muchDone()))) {
            CHECK.part("a full text");
            CALLS.clear();
            for (int letter : new int[] {0, ' ', ';', 's', 'x', 255}) {
                refused("feed(" + letter + ")", FULL, x -> x.feed(letter));
            }
            for (int letter : beyond(256)) {
                refused("feed(" + letter + ")", OUTSIDE, x -> x.feed(letter));
            }
            refuseAll(made);
        }
    }

    /** What stands there already is a good text but for blanks behind it, or a clause that wants its ';'. */
    private static EightWays filled(EightWays x) {
        int left = 240 - x.told(3);
        for (int n = 0; n < left; n++) {
            x.feed(' ');
        }
        return x;
    }

    /** "NOT: none." */
    private static void nothingToUndo() {
        CHECK.part("nothing to undo");
        CALLS.clear();
        refused("undo()", NOT, EightWays::undo);
        refuseAll(EightWays::new);
        refuseAll(() -> Check.netOf("s0 0;s9 0;e0 1;l1 0;"));
        refuseAll(() -> {
            EightWays x = muchDone();
            x.keep(1);
            return x;
        });
        refuseAll(() -> {
            EightWays x = muchDone();
            x.goBack(0);
            return x;
        });
        refuseAll(() -> {
            EightWays x = muchDone();
            for (int n = 0; n < 5; n++) {
                x.undo();
            }
            return x;
        });
    }

    /** "UNKNOWN, NOT: it is not." */
    private static void notFixed() {
        CHECK.part("not fixed");
        CALLS.clear();
        for (int e = 1; e < 5; e++) {
            int loose = e;
            refused("loose(" + e + ")", NOT, x -> x.loose(loose));
        }
        refuseAll(RefusalTest::muchDone);
        refuseAll(RefusalTest::sixteenDone);
    }

    /** "UNKNOWN, NOT: it was not kept." */
    private static void notKept() {
        CHECK.part("not kept");
        CALLS.clear();
        refused("goBack(1)", NOT, x -> x.goBack(1));
        refuseAll(EightWays::new);
        refuseAll(RefusalTest::muchDone);
        refuseAll(RefusalTest::sixteenDone);
        CALLS.clear();
        refused("goBack(0)", NOT, x -> x.goBack(0));
        refuseAll(EightWays::new);
        refuseAll(RefusalTest::withoutPlan);
    }

    /** "OUTSIDE, NOT: no STATIONS." */
    private static void noStations() {
        CHECK.part("no stations");
        CALLS.clear();
        refused("drift(1)", NOT, x -> x.drift(1));
        refused("drift(999999)", NOT, x -> x.drift(999999));
        refused("drift(0)", OUTSIDE, x -> x.drift(0));
        refused("drift(1000000)", OUTSIDE, x -> x.drift(1000000));
        refuseAll(EightWays::new);
        refuseAll(() -> {
            EightWays x = new EightWays();
            x.count(0, 3);
            x.keep(0);
            x.count(1, 9);
            return x;
        });
    }

    // ---- the last that is taken

    private static void taken(String call, int answer) {
        CHECK.due(call + " is refused", answer <= UNKNOWN ? answer : 0, 0);
    }

    private static void takenAtTheBounds() {
        CHECK.part("the last that is taken");
        EightWays x = fullNet();
        for (int s : new int[] {0, 7}) {
            taken("station(" + s + ", 0)", x.station(s, 0));
            taken("station(" + s + ", 6)", x.station(s, 6));
            taken("crossings(" + s + ")", x.crossings(s));
            taken("move(" + s + ", 0, 0)", x.move(s, 0, 0));
            taken("move(" + s + ", 99, 99)", x.move(s, 99, 99));
        }
        for (int e : new int[] {0, 6}) {
            taken("stretch(" + e + ", 0)", x.stretch(e, 0));
            taken("stretch(" + e + ", 7)", x.stretch(e, 7));
            taken("order(" + e + ", 0)", x.order(e, 0));
            taken("order(" + e + ", 2147483647)", x.order(e, MOST));
            taken("would(" + e + ", 0)", x.would(e, 0));
            taken("would(" + e + ", 7)", x.would(e, 7));
            taken("fix(" + e + ", 0)", x.fix(e, 0));
            taken("fix(" + e + ", 7)", x.fix(e, 7));
            taken("loose(" + e + ")", x.loose(e));
        }
        for (int l : new int[] {0, 2}) {
            taken("line(" + l + ", 0)", x.line(l, 0));
            taken("line(" + l + ", 3)", x.line(l, 3));
            taken("along(" + l + ", 0)", x.along(l, 0));
            taken("along(" + l + ", 2147483647)", x.along(l, MOST));
            taken("cross(" + l + ", 1)", x.cross(l, 1));
            taken("cross(" + l + ", " + (2 - l) + ")", x.cross(l, 2 - l));
            taken("cross(1, " + l + ")", x.cross(1, l));
        }
        takenByAll(x);
    }

    private static void takenByAll(EightWays x) {
        int[][] counts = {{0, 0}, {0, 3}, {1, 0}, {1, 9}};
        for (int[] c : counts) {
            taken("count(" + c[0] + ", " + c[1] + ")", x.count(c[0], c[1]));
        }
        int[][] bends = {{0, 0}, {0, 4}, {3, 0}, {3, 4}};
        for (int[] b : bends) {
            taken("bend(" + b[0] + ", " + b[1] + ")", x.bend(b[0], b[1]));
        }
        for (int v : new int[] {0, 1}) {
            taken("fault(" + v + ")", x.fault(v));
            taken("told(" + 12 * v + ")", x.told(12 * v));
            taken("keep(" + v + ")", x.keep(v));
            taken("goBack(" + v + ")", x.goBack(v));
            taken("feed(" + 255 * v + ")", x.feed(255 * v));
            taken("drift(" + (1 + 999998 * v) + ")", x.drift(1 + 999998 * v));
        }
        taken("undo()", x.undo());
    }
}
