import java.util.ArrayDeque;
import java.util.ArrayList;
import java.util.Arrays;
import java.util.Collections;
import java.util.Deque;
import java.util.HashSet;
import java.util.List;
import java.util.Set;

/** The document once more, as plainly as can be and by trying everything: what EightWays is compared with. */
final class Oracle {
    static final int NONE = -1, UNKNOWN = -1000000001, OUTSIDE = -1000000002, NOT = -1000000003, FULL = -1000000004;

    private record Point(int x, int y) { }

    private static final class State {
        List<Point> points = new ArrayList<>();
        Integer[] fixed = new Integer[0];
        int way = 0;
        int offset = 1;

        State copy() {
            State s = new State();
            s.points = new ArrayList<>(points);
            s.fixed = fixed.clone();
            s.way = way;
            s.offset = offset;
            return s;
        }
    }

    private static final class Parsed {
        final List<Point> points = new ArrayList<>();
        final List<int[]> edges = new ArrayList<>();
        final List<int[]> lines = new ArrayList<>();
        int faultAt = NONE;
        int fault = 0;
        int why = 0;

        void blame(int at, int number, int reason) {
            if (fault == 0 || at < faultAt || at == faultAt && number < fault) {
                faultAt = at;
                fault = number;
                why = reason;
            }
        }

        List<Integer> path(int from, int to) {
            return pathWithout(from, to, new HashSet<>());
        }

        private List<Integer> pathWithout(int from, int to, Set<Integer> used) {
            if (from == to) {
                return new ArrayList<>();
            }
            for (int e = 0; e < edges.size(); e++) {
                int[] ends = edges.get(e);
                if (used.contains(e) || ends[0] != from && ends[1] != from) {
                    continue;
                }
                used.add(e);
                List<Integer> rest = pathWithout(ends[0] == from ? ends[1] : ends[0], to, used);
                if (rest != null) {
                    rest.add(0, e);
                    return rest;
                }
            }
            return null;
        }
    }

    private final StringBuilder text = new StringBuilder();
    private Parsed net = new Parsed();
    private int faultAt = NONE;
    private int why = 0;
    private State now = new State();
    private final Deque<State> past = new ArrayDeque<>();
    private final State[] images = new State[2];

    // worked out anew when asked behind a change
    private int[] best;
    private int[] lengths;
    private List<List<Integer>> orders;
    private boolean bestDone, lengthsDone, ordersDone;

    private void changed() {
        bestDone = false;
        lengthsDone = false;
        ordersDone = false;
    }

    int feed(int letter) {
        if (letter < 0 || letter > 255) {
            return OUTSIDE;
        }
        if (text.length() == 240) {
            return FULL;
        }
        text.append((char) letter);
        return text.length();
    }

    int net() {
        Parsed p = parse(text.toString());
        text.setLength(0);
        faultAt = p.faultAt;
        why = p.why;
        if (p.fault != 0) {
            return -10 - p.fault;
        }
        net = p;
        now = new State();
        now.points.addAll(p.points);
        now.fixed = new Integer[p.edges.size()];
        past.clear();
        Arrays.fill(images, null);
        changed();
        return p.points.size();
    }

    /** One letter after the other, with the end as a letter that nothing takes. */
    private static Parsed parse(String t) {
        Parsed p = new Parsed();
        int stage = 0; // 0 a word is due, 1 the first number, 2 the second, 3 the semicolon
        char word = 0;
        int[] number = new int[3];
        int i = 0;
        while (p.fault == 0) {
            if (i == t.length()) {
                if (stage != 0) {
                    p.blame(i, 1, 0);
                }
                break;
            }
            char c = t.charAt(i);
            if (c == ' ') {
                i++;
            } else if (stage == 0 && "sel".indexOf(c) >= 0) {
                word = c;
                int have = c == 's' ? p.points.size() : c == 'e' ? p.edges.size() : p.lines.size();
                int most = c == 's' ? 8 : c == 'e' ? 7 : 3;
                if (have == most) {
                    p.blame(i, 3, 0);
                }
                stage = 1;
                i++;
            } else if ((stage == 1 || stage == 2) && Character.isDigit(c) && c < 128) {
                int j = i;
                while (j < t.length() && t.charAt(j) >= '0' && t.charAt(j) <= '9') {
                    j++;
                }
                if (j - i > 2) {
                    p.blame(i, 2, 0);
                    break;
                }
                number[stage] = Integer.parseInt(t.substring(i, j));
                if (word != 's') {
                    judge(p, word, number, stage, i);
                }
                i = j;
                stage++;
            } else if (stage == 3 && c == ';') {
                if (word == 's') {
                    p.points.add(new Point(number[1], number[2]));
                } else {
                    (word == 'e' ? p.edges : p.lines).add(new int[] {number[1], number[2]});
                }
                stage = 0;
                i++;
            } else {
                p.blame(i, 1, 0);
            }
        }
        return p;
    }

    private static void judge(Parsed p, char word, int[] number, int stage, int at) {
        if (number[stage] >= p.points.size()) {
            p.blame(at, 2, 0);
        } else if (stage == 2) {
            boolean led = p.path(number[1], number[2]) != null;
            if (number[1] == number[2]) {
                p.blame(at, 4, 1);
            } else if (word == 'e' && led) {
                p.blame(at, 4, 2);
            } else if (word == 'l' && !led) {
                p.blame(at, 4, 3);
            }
        }
    }

    int fault(int what) {
        return what == 0 ? faultAt : what == 1 ? why : OUTSIDE;
    }

    // ---- plans

    private int trueOf(int e) {
        Point a = now.points.get(net.edges.get(e)[0]);
        Point b = now.points.get(net.edges.get(e)[1]);
        int dx = b.x() - a.x();
        int dy = b.y() - a.y();
        if (dx == 0 && dy == 0) {
            return 0;
        }
        int greater = Math.max(Math.abs(dx), Math.abs(dy));
        int lesser = Math.min(Math.abs(dx), Math.abs(dy));
        int sx = Integer.signum(dx);
        int sy = Integer.signum(dy);
        if (12 * lesser < 5 * greater) {
            if (Math.abs(dx) == greater) {
                sy = 0;
            } else {
                sx = 0;
            }
        }
        for (int d = 0; d < 8; d++) {
            if (step(d).x() == sx && step(d).y() == sy) {
                return d;
            }
        }
        throw new IllegalStateException();
    }

    private static Point step(int d) {
        double angle = Math.PI * d / 4;
        return new Point((int) Math.signum(Math.round(Math.cos(angle) * 10)), (int) Math.signum(Math.round(Math.sin(angle) * 10)));
    }

    private static int round(int d, int e) {
        int n = Math.abs(d - e) % 8;
        return n > 4 ? 8 - n : n;
    }

    private static int counted(int way, int n) {
        return new int[][] {{0, 1, 2, 3, 4}, {0, 1, 4, 9, 16}, {0, 0, 10, 10, 10}, {0, 1, 1, 1, 1}}[way][n];
    }

    /** The direction of a stretch as one goes from station s along it. */
    private int leaving(int[] plan, int e, int s) {
        return net.edges.get(e)[0] == s ? plan[e] : (plan[e] + 4) % 8;
    }

    private boolean isPlan(int[] plan) {
        for (int s = 0; s < now.points.size(); s++) {
            Set<Integer> used = new HashSet<>();
            for (int e = 0; e < plan.length; e++) {
                int[] ends = net.edges.get(e);
                if ((ends[0] == s || ends[1] == s) && !used.add(leaving(plan, e, s))) {
                    return false;
                }
            }
        }
        return true;
    }

    private int bends(int[] plan, int l) {
        int sum = 0;
        int s = net.lines.get(l)[0];
        int came = NONE;
        for (int e : net.path(s, net.lines.get(l)[1])) {
            int goes = leaving(plan, e, s);
            if (came != NONE) {
                sum += counted(now.way, round(came, goes));
            }
            came = goes;
            int[] ends = net.edges.get(e);
            s = ends[0] == s ? ends[1] : ends[0];
        }
        return sum;
    }

    private int bends(int[] plan) {
        int sum = 0;
        for (int l = 0; l < net.lines.size(); l++) {
            sum += bends(plan, l);
        }
        return sum;
    }

    private int cost(int[] plan) {
        int sum = bends(plan);
        for (int e = 0; e < plan.length; e++) {
            sum += now.offset * round(plan[e], trueOf(e));
        }
        return sum;
    }

    private List<int[]> allPlans() {
        List<int[]> found = new ArrayList<>();
        int m = net.edges.size();
        int all = (int) Math.round(Math.pow(3, m));
        int[] truth = new int[m];
        for (int e = 0; e < m; e++) {
            truth[e] = trueOf(e);
        }
        for (int code = 0; code < all; code++) {
            int[] plan = new int[m];
            int left = code;
            boolean fits = true;
            for (int e = m - 1; e >= 0; e--) {
                int digit = left % 3;
                left /= 3;
                plan[e] = (truth[e] + new int[] {0, 1, 7}[digit]) % 8;
                if (now.fixed[e] != null) {
                    plan[e] = now.fixed[e];
                    fits &= digit == 0;
                }
            }
            if (fits && isPlan(plan)) {
                found.add(plan);
            }
        }
        return found;
    }

    private int[] best() {
        if (!bestDone) {
            best = null;
            int least = 0;
            for (int[] plan : allPlans()) {
                int c = cost(plan);
                if (best == null || c < least) {
                    best = plan;
                    least = c;
                }
            }
            bestDone = true;
        }
        return best;
    }

    private int bestCost() {
        return best() == null ? NONE : cost(best());
    }

    // ---- places

    private boolean together(int s, int t) {
        return net.path(s, t) != null;
    }

    private int leastOf(int s) {
        int t = 0;
        while (!together(s, t)) {
            t++;
        }
        return t;
    }

    private Point place(int s, int[] n) {
        int x = 0;
        int y = 0;
        int at = leastOf(s);
        for (int e : net.path(at, s)) {
            Point d = step(leaving(best(), e, at));
            x += n[e] * d.x();
            y += n[e] * d.y();
            int[] ends = net.edges.get(e);
            at = ends[0] == at ? ends[1] : ends[0];
        }
        return new Point(x, y);
    }

    private boolean isSpread(int[] n) {
        Set<String> taken = new HashSet<>();
        for (int s = 0; s < now.points.size(); s++) {
            Point p = place(s, n);
            if (!taken.add(leastOf(s) + ":" + p.x() + ":" + p.y())) {
                return false;
            }
        }
        return true;
    }

    private int[] lengths() {
        if (!lengthsDone) {
            lengths = null;
            lengthsDone = true;
            int m = net.edges.size();
            int all = (int) Math.round(Math.pow(3, m));
            for (int sum = m; best() != null && sum <= 3 * m && lengths == null; sum++) {
                for (int code = 0; code < all && lengths == null; code++) {
                    int[] n = new int[m];
                    int left = code;
                    for (int e = m - 1; e >= 0; e--) {
                        n[e] = 1 + left % 3;
                        left /= 3;
                    }
                    if (Arrays.stream(n).sum() == sum && isSpread(n)) {
                        lengths = n;
                    }
                }
            }
        }
        return lengths;
    }

    private int sign(int s) {
        for (int d = 0; d < 8; d++) {
            boolean free = true;
            for (int e = 0; e < net.edges.size(); e++) {
                int[] ends = net.edges.get(e);
                free &= !((ends[0] == s || ends[1] == s) && leaving(best(), e, s) == d);
            }
            Point here = place(s, lengths());
            Point beside = new Point(here.x() + step(d).x(), here.y() + step(d).y());
            for (int t = 0; t < now.points.size(); t++) {
                free &= !(together(s, t) && place(t, lengths()).equals(beside));
            }
            if (free) {
                return d;
            }
        }
        return NONE;
    }

    // ---- orders

    private List<Integer> carried(int e) {
        List<Integer> found = new ArrayList<>();
        for (int l = 0; l < net.lines.size(); l++) {
            if (net.path(net.lines.get(l)[0], net.lines.get(l)[1]).contains(e)) {
                found.add(l);
            }
        }
        return found;
    }

    /** The two stretches of a line at a station that it goes through; null: it doesn't. */
    private int[] through(int l, int s) {
        List<Integer> at = new ArrayList<>();
        for (int e : net.path(net.lines.get(l)[0], net.lines.get(l)[1])) {
            int[] ends = net.edges.get(e);
            if (ends[0] == s || ends[1] == s) {
                at.add(e);
            }
        }
        return at.size() == 2 ? new int[] {at.get(0), at.get(1)} : null;
    }

    /** Is l to the left of k on e, as one goes from station s along it (or, coming, to it)? */
    private boolean isLeft(List<List<Integer>> o, int l, int k, int e, int s, boolean coming) {
        List<Integer> fromLeft = new ArrayList<>(o.get(e));
        boolean fromA = coming ? net.edges.get(e)[1] == s : net.edges.get(e)[0] == s;
        if (!fromA) {
            Collections.reverse(fromLeft);
        }
        return fromLeft.indexOf(l) < fromLeft.indexOf(k);
    }

    private int turn(int e, int f, int s) {
        int in = (leaving(best(), e, s) + 4) % 8;
        int turn = leaving(best(), f, s) - in;
        while (turn > 4) {
            turn -= 8;
        }
        while (turn < -3) {
            turn += 8;
        }
        return turn;
    }

    private boolean doCross(List<List<Integer>> o, int[][][] ways, int l, int k, int s) {
        int[] one = ways[l][s];
        int[] two = ways[k][s];
        if (one == null || two == null) {
            return false;
        }
        int come = NONE;
        for (int e : one) {
            for (int f : two) {
                if (e == f && (come == NONE || e < come)) {
                    come = e;
                }
            }
        }
        if (come == NONE) {
            return false;
        }
        int goes = one[0] == come ? one[1] : one[0];
        int other = two[0] == come ? two[1] : two[0];
        boolean left = isLeft(o, l, k, come, s, true);
        if (goes == other) {
            return left != isLeft(o, l, k, goes, s, false);
        }
        return left != turn(come, goes, s) > turn(come, other, s);
    }

    private int[][][] ways() {
        int[][][] ways = new int[net.lines.size()][now.points.size()][];
        for (int l = 0; l < ways.length; l++) {
            for (int s = 0; s < now.points.size(); s++) {
                ways[l][s] = through(l, s);
            }
        }
        return ways;
    }

    private int crossingsOf(List<List<Integer>> o, int[][][] ways) {
        int sum = 0;
        for (int s = 0; s < now.points.size(); s++) {
            for (int l = 0; l < net.lines.size(); l++) {
                for (int k = l + 1; k < net.lines.size(); k++) {
                    sum += doCross(o, ways, l, k, s) ? 1 : 0;
                }
            }
        }
        return sum;
    }

    private static List<List<Integer>> permutations(List<Integer> of) {
        List<List<Integer>> found = new ArrayList<>();
        if (of.isEmpty()) {
            found.add(new ArrayList<>());
        }
        for (int i = 0; i < of.size(); i++) {
            List<Integer> rest = new ArrayList<>(of);
            Integer first = rest.remove(i);
            for (List<Integer> p : permutations(rest)) {
                p.add(0, first);
                found.add(p);
            }
        }
        return found;
    }

    private List<List<Integer>> orders() {
        if (!ordersDone) {
            orders = null;
            ordersDone = true;
            if (best() != null) {
                List<List<List<Integer>>> choices = new ArrayList<>();
                for (int e = 0; e < net.edges.size(); e++) {
                    choices.add(permutations(carried(e)));
                }
                tryOrders(choices, new ArrayList<>(), ways(), new int[] {Integer.MAX_VALUE});
            }
        }
        return orders;
    }

    private void tryOrders(List<List<List<Integer>>> choices, List<List<Integer>> soFar, int[][][] ways, int[] least) {
        if (soFar.size() == choices.size()) {
            int c = crossingsOf(soFar, ways);
            if (c < least[0]) {
                least[0] = c;
                orders = new ArrayList<>(soFar);
            }
            return;
        }
        for (List<Integer> p : choices.get(soFar.size())) {
            soFar.add(p);
            tryOrders(choices, soFar, ways, least);
            soFar.remove(soFar.size() - 1);
        }
    }

    // ---- what is asked of these

    int told(int what) {
        switch (what) {
            case 0: return net.points.size();
            case 1: return net.edges.size();
            case 2: return net.lines.size();
            case 3: return text.length();
            case 4: return now.way;
            case 5: return now.offset;
            case 6: return bestCost();
            case 7: return best() == null ? NONE : bends(best());
            case 8: return lengths() == null ? NONE : Arrays.stream(lengths()).sum();
            case 9: return orders() == null ? NONE : crossingsOf(orders(), ways());
            case 10:
                int set = 0;
                for (int e = 0; e < now.fixed.length; e++) {
                    set += now.fixed[e] == null ? 0 : (int) Math.pow(2, e);
                }
                return set;
            case 11:
                if (lengths() == null) {
                    return NONE;
                }
                int found = 0;
                for (int s = 0; s < net.points.size(); s++) {
                    found += sign(s) == NONE ? 0 : 1;
                }
                return found;
            case 12: return past.size();
            default: return OUTSIDE;
        }
    }

    int station(int s, int what) {
        if (s < 0 || s >= net.points.size()) {
            return UNKNOWN;
        }
        switch (what) {
            case 0: return now.points.get(s).x();
            case 1: return now.points.get(s).y();
            case 2: return leastOf(s);
            case 3: return (int) net.edges.stream().filter(e -> e[0] == s || e[1] == s).count();
            case 4: return lengths() == null ? -99 : place(s, lengths()).x();
            case 5: return lengths() == null ? -99 : place(s, lengths()).y();
            case 6: return lengths() == null ? NONE : sign(s);
            default: return OUTSIDE;
        }
    }

    int stretch(int e, int what) {
        if (e < 0 || e >= net.edges.size()) {
            return UNKNOWN;
        }
        switch (what) {
            case 0: return net.edges.get(e)[0];
            case 1: return net.edges.get(e)[1];
            case 2: return trueOf(e);
            case 3: return best() == null ? NONE : best()[e];
            case 4: return best() == null ? NONE : round(best()[e], trueOf(e));
            case 5: return lengths() == null ? NONE : lengths()[e];
            case 6: return now.fixed[e] == null ? NONE : now.fixed[e];
            case 7: return carried(e).stream().mapToInt(l -> 1 << l).sum();
            default: return OUTSIDE;
        }
    }

    int line(int l, int what) {
        if (l < 0 || l >= net.lines.size()) {
            return UNKNOWN;
        }
        switch (what) {
            case 0: return net.lines.get(l)[0];
            case 1: return net.lines.get(l)[1];
            case 2: return net.path(net.lines.get(l)[0], net.lines.get(l)[1]).size();
            case 3: return best() == null ? NONE : bends(best(), l);
            default: return OUTSIDE;
        }
    }

    int along(int l, int k) {
        if (l < 0 || l >= net.lines.size()) {
            return UNKNOWN;
        }
        if (k < 0) {
            return OUTSIDE;
        }
        List<Integer> path = net.path(net.lines.get(l)[0], net.lines.get(l)[1]);
        return k < path.size() ? path.get(k) : NONE;
    }

    // ---- what is done

    private void remember() {
        past.addLast(now.copy());
        if (past.size() > 16) {
            past.removeFirst();
        }
        changed();
    }

    int fix(int e, int d) {
        if (e < 0 || e >= net.edges.size()) {
            return UNKNOWN;
        }
        if (d < 0 || d > 7) {
            return OUTSIDE;
        }
        remember();
        now.fixed[e] = d;
        return bestCost();
    }

    int loose(int e) {
        if (e < 0 || e >= net.edges.size()) {
            return UNKNOWN;
        }
        if (now.fixed[e] == null) {
            return NOT;
        }
        remember();
        int d = now.fixed[e];
        now.fixed[e] = null;
        return d;
    }

    int count(int what, int v) {
        if (what < 0 || what > 1 || v < 0 || v > (what == 0 ? 3 : 9)) {
            return OUTSIDE;
        }
        remember();
        if (what == 0) {
            now.way = v;
        } else {
            now.offset = v;
        }
        return bestCost();
    }

    int move(int s, int x, int y) {
        if (s < 0 || s >= net.points.size()) {
            return UNKNOWN;
        }
        if (Math.min(x, y) < 0 || Math.max(x, y) > 99) {
            return OUTSIDE;
        }
        remember();
        now.points.set(s, new Point(x, y));
        return bestCost();
    }

    int drift(int seed) {
        if (seed < 1 || seed > 999999) {
            return OUTSIDE;
        }
        if (net.points.isEmpty()) {
            return NOT;
        }
        remember();
        long x = seed;
        for (int s = 0; s < net.points.size(); s++) {
            x = x * 16807 % 2147483647;
            int first = (int) (x % 100);
            x = x * 16807 % 2147483647;
            now.points.set(s, new Point(first, (int) (x % 100)));
        }
        return bestCost();
    }

    int undo() {
        if (past.isEmpty()) {
            return NOT;
        }
        now = past.removeLast();
        changed();
        return past.size();
    }

    int bend(int way, int n) {
        return way < 0 || way > 3 || n < 0 || n > 4 ? OUTSIDE : counted(way, n);
    }

    int would(int e, int d) {
        if (e < 0 || e >= net.edges.size()) {
            return UNKNOWN;
        }
        if (d < 0 || d > 7) {
            return OUTSIDE;
        }
        State held = now;
        now = held.copy();
        now.fixed[e] = d;
        bestDone = false;
        int answer = bestCost();
        now = held;
        bestDone = false;
        return answer;
    }

    int plans() {
        return allPlans().size();
    }

    int order(int e, int i) {
        if (e < 0 || e >= net.edges.size()) {
            return UNKNOWN;
        }
        if (i < 0) {
            return OUTSIDE;
        }
        return orders() == null || i >= orders().get(e).size() ? NONE : orders().get(e).get(i);
    }

    int crossings(int s) {
        if (s < 0 || s >= net.points.size()) {
            return UNKNOWN;
        }
        if (orders() == null) {
            return NONE;
        }
        int sum = 0;
        for (int l = 0; l < net.lines.size(); l++) {
            for (int k = l + 1; k < net.lines.size(); k++) {
                sum += doCross(orders(), ways(), l, k, s) ? 1 : 0;
            }
        }
        return sum;
    }

    int cross(int l, int k) {
        if (l < 0 || l >= net.lines.size() || k < 0 || k >= net.lines.size() || l == k) {
            return UNKNOWN;
        }
        if (orders() == null) {
            return NONE;
        }
        int sum = 0;
        for (int s = 0; s < net.points.size(); s++) {
            sum += doCross(orders(), ways(), l, k, s) ? 1 : 0;
        }
        return sum;
    }

    int keep(int i) {
        if (i != 0 && i != 1) {
            return UNKNOWN;
        }
        images[i] = now.copy();
        past.clear();
        return 1;
    }

    int goBack(int i) {
        if (i != 0 && i != 1) {
            return UNKNOWN;
        }
        if (images[i] == null) {
            return NOT;
        }
        now = images[i].copy();
        past.clear();
        changed();
        return bestCost();
    }
}
