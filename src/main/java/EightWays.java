import java.util.Arrays;

/** A net of lines drawn in eight directions; README.md says how to use it. */
public final class EightWays {
    public static final int NONE = -1, UNKNOWN = -1000000001, OUTSIDE = -1000000002, NOT = -1000000003, FULL = -1000000004;

    private static final int MOST_LETTERS = 240, MOST_STATIONS = 8, MOST_STRETCHES = 7, MOST_LINES = 3;
    private static final int MOST_UNDONE = 16, IMAGES = 2, MOST_LENGTH = 3;
    private static final int FAULT_BASE = -10, NO_PLACE = -99;
    private static final int OPPOSITE = 4;

    /** The shorter way round, for each number of eighths that one direction is more than another. */
    private static final int[] SHORTER = {0, 1, 2, 3, 4, 3, 2, 1};

    /** Above every cost, length and number of crossings that there can be. */
    private static final int FAR = 1000000;

    private static final int[] STEP_X = {1, 1, 0, -1, -1, -1, 0, 1};
    private static final int[] STEP_Y = {0, 1, 1, 1, 0, -1, -1, -1};

    /** The orders of three lines from the left, the least first, three places each. */
    private static final int[] RANKS = {0, 1, 2, 0, 2, 1, 1, 0, 2, 1, 2, 0, 2, 0, 1, 2, 1, 0};
    private static final int RANKINGS = 6;

    /** For each of these orders the pairs (01, 02, 12) whose lesser line is to the left: a set. */
    private static final int[] SIDES = {7, 3, 6, 4, 1, 0};
    private static final int[] BITS_IN = {0, 1, 1, 2, 1, 2, 2, 3};

    private final Reader reader = new Reader();
    private Net current = new Net();
    private Net spare = new Net();
    private final Setting now = new Setting();
    private final Setting guess = new Setting();
    private final Past past = new Past();
    private final Setting[] images = new Setting[IMAGES];
    /** The set of images that were kept. */
    private int imagesKept;
    private final Chart best = new Chart(current, now);
    private final Chart guessed = new Chart(current, guess);
    private final Places places = new Places(best);
    private final Sides sides = new Sides(best);
    private boolean bestKnown, tallyKnown, placesKnown, sidesKnown;
    private int tally;

    public EightWays() {
        for (int i = 0; i < IMAGES; i++) {
            images[i] = new Setting();
        }
        now.start(current);
    }

    // ---- the net

    public int feed(int letter) {
        if (letter < 0 || letter > 255) {
            return OUTSIDE;
        }
        return reader.take(letter) ? reader.size : FULL;
    }

    public int net() {
        int found = reader.read(spare);
        if (found != 0) {
            return FAULT_BASE - found;
        }
        Net read = spare;
        spare = current;
        current = read;
        now.start(current);
        past.clear();
        imagesKept = 0;
        forget();
        return current.stations;
    }

    public int fault(int what) {
        if (what == 0) {
            return reader.faultAt;
        }
        return what == 1 ? reader.why : OUTSIDE;
    }

    public int told(int what) {
        switch (what) {
            case 0: return current.stations;
            case 1: return current.stretches;
            case 2: return current.lines;
            case 3: return reader.size;
            case 4: return now.way;
            case 5: return now.offset;
            case 6: return knownBest().cost;
            case 7: return knownBest().bends();
            case 8: return knownPlaces().total;
            case 9: return knownSides().total;
            case 10: return now.fixedSet();
            case 11: return knownPlaces().signs;
            case 12: return past.size;
            default: return OUTSIDE;
        }
    }

    public int station(int s, int what) {
        if (!isStation(s)) {
            return UNKNOWN;
        }
        switch (what) {
            case 0: return now.x[s];
            case 1: return now.y[s];
            case 2: return current.least(s);
            case 3: return current.degree(s);
            case 4: return knownPlaces().x[s];
            case 5: return knownPlaces().y[s];
            case 6: return knownPlaces().sign[s];
            default: return OUTSIDE;
        }
    }

    public int stretch(int e, int what) {
        if (!isStretch(e)) {
            return UNKNOWN;
        }
        switch (what) {
            case 0: return current.a[e];
            case 1: return current.b[e];
            case 2: return trueOf(current, now, e);
            case 3: return knownBest().direction[e];
            case 4: return knownBest().off(e);
            case 5: return knownPlaces().length[e];
            case 6: return now.fixed[e];
            case 7: return current.carried[e];
            default: return OUTSIDE;
        }
    }

    public int line(int l, int what) {
        if (!isLine(l)) {
            return UNKNOWN;
        }
        switch (what) {
            case 0: return current.from[l];
            case 1: return current.to[l];
            case 2: return current.rowLength[l];
            case 3: return knownBest().bendsOf(l);
            default: return OUTSIDE;
        }
    }

    public int along(int l, int k) {
        if (!isLine(l)) {
            return UNKNOWN;
        }
        if (k < 0) {
            return OUTSIDE;
        }
        return k < current.rowLength[l] ? current.row[l * MOST_STRETCHES + k] : NONE;
    }

    // ---- what is done

    public int fix(int e, int direction) {
        if (!isStretch(e)) {
            return UNKNOWN;
        }
        if (!isDirection(direction)) {
            return OUTSIDE;
        }
        startChange();
        now.fixed[e] = direction;
        return knownBest().cost;
    }

    public int loose(int e) {
        if (!isStretch(e)) {
            return UNKNOWN;
        }
        int direction = now.fixed[e];
        if (direction == NONE) {
            return NOT;
        }
        startChange();
        now.fixed[e] = NONE;
        return direction;
    }

    public int count(int what, int v) {
        if (what == 0 && isWay(v)) {
            startChange();
            now.way = v;
            return knownBest().cost;
        }
        if (what == 1 && v >= 0 && v <= 9) {
            startChange();
            now.offset = v;
            return knownBest().cost;
        }
        return OUTSIDE;
    }

    public int move(int s, int x, int y) {
        if (!isStation(s)) {
            return UNKNOWN;
        }
        if (x < 0 || x > 99 || y < 0 || y > 99) {
            return OUTSIDE;
        }
        startChange();
        now.x[s] = x;
        now.y[s] = y;
        return knownBest().cost;
    }

    public int drift(int seed) {
        if (seed < 1 || seed > 999999) {
            return OUTSIDE;
        }
        if (current.stations == 0) {
            return NOT;
        }
        startChange();
        now.scatter(seed, current.stations);
        return knownBest().cost;
    }

    public int undo() {
        if (!past.giveBack(now)) {
            return NOT;
        }
        forget();
        return past.size;
    }

    // ---- asked

    public int bend(int way, int n) {
        if (!isWay(way) || n < 0 || n > 4) {
            return OUTSIDE;
        }
        return counted(way, n);
    }

    public int would(int e, int direction) {
        if (!isStretch(e)) {
            return UNKNOWN;
        }
        if (!isDirection(direction)) {
            return OUTSIDE;
        }
        guess.become(now);
        guess.fixed[e] = direction;
        guessed.draw(current);
        return guessed.cost;
    }

    public int plans() {
        if (!tallyKnown) {
            tally = knownBest().cost == NONE ? 0 : best.tallyPlans();
            tallyKnown = true;
        }
        return tally;
    }

    public int order(int e, int i) {
        if (!isStretch(e)) {
            return UNKNOWN;
        }
        if (i < 0) {
            return OUTSIDE;
        }
        return knownSides().lineAt(e, i);
    }

    public int crossings(int s) {
        return isStation(s) ? knownSides().crossedAt(s) : UNKNOWN;
    }

    public int cross(int l, int other) {
        if (!isLine(l) || !isLine(other) || l == other) {
            return UNKNOWN;
        }
        return knownSides().crossedBy(l, other);
    }

    // ---- images

    public int keep(int i) {
        if (!isImage(i)) {
            return UNKNOWN;
        }
        images[i].become(now);
        imagesKept |= 1 << i;
        past.clear();
        return 1;
    }

    public int goBack(int i) {
        if (!isImage(i)) {
            return UNKNOWN;
        }
        if (!has(imagesKept, i)) {
            return NOT;
        }
        now.become(images[i]);
        past.clear();
        forget();
        return knownBest().cost;
    }

    // ---- what there is

    private boolean isStation(int s) {
        return s >= 0 && s < current.stations;
    }

    private boolean isStretch(int e) {
        return e >= 0 && e < current.stretches;
    }

    private boolean isLine(int l) {
        return l >= 0 && l < current.lines;
    }

    private static boolean isImage(int i) {
        return i >= 0 && i < IMAGES;
    }

    private static boolean isDirection(int direction) {
        return direction >= 0 && direction <= 7;
    }

    private static boolean isWay(int way) {
        return way >= 0 && way <= 3;
    }

    // ---- what is worked out is kept until something changes

    private void startChange() {
        past.hold(now);
        forget();
    }

    private void forget() {
        bestKnown = false;
        tallyKnown = false;
        placesKnown = false;
        sidesKnown = false;
    }

    private Chart knownBest() {
        if (!bestKnown) {
            best.draw(current);
            bestKnown = true;
        }
        return best;
    }

    private Places knownPlaces() {
        if (!placesKnown) {
            knownBest();
            places.settle();
            placesKnown = true;
        }
        return places;
    }

    private Sides knownSides() {
        if (!sidesKnown) {
            knownBest();
            sides.settle();
            sidesKnown = true;
        }
        return sides;
    }

    // ---- directions

    private static int trueOf(Net net, Setting setting, int e) {
        int a = net.a[e];
        int b = net.b[e];
        return trueDirection(setting.x[b] - setting.x[a], setting.y[b] - setting.y[a]);
    }

    private static int trueDirection(int dx, int dy) {
        int wide = Math.abs(dx);
        int high = Math.abs(dy);
        if (wide == 0 && high == 0) {
            return 0;
        }
        if (12 * Math.min(wide, high) < 5 * Math.max(wide, high)) {
            if (wide > high) {
                return dx > 0 ? 0 : 4;
            }
            return dy > 0 ? 2 : 6;
        }
        if (dx > 0) {
            return dy > 0 ? 1 : 7;
        }
        return dy > 0 ? 3 : 5;
    }

    /** How many eighths two directions differ, the shorter way. */
    private static int apart(int one, int other) {
        return SHORTER[(one - other) & 7];
    }

    private static int counted(int way, int eighths) {
        switch (way) {
            case 0: return eighths;
            case 1: return eighths * eighths;
            case 2: return eighths < 2 ? 0 : 10;
            default: return eighths == 0 ? 0 : 1;
        }
    }

    private static boolean has(int set, int member) {
        return ((set >> member) & 1) != 0;
    }

    /** The text as it is fed, and the first fault of the text that was read last. */
    private static final class Reader {
        private static final int BLANK = 32;
        private static final int MISPLACED = 1, NO_SUCH = 2, TOO_MANY = 3, SENSELESS = 4;
        private static final int TO_ITSELF = 1, RING = 2, GAP = 3;

        int size;
        int faultAt = NONE;
        int why;
        private final int[] letters = new int[MOST_LETTERS];
        private int fault;
        private int at;
        private int numberAt;

        boolean take(int letter) {
            if (size >= MOST_LETTERS) {
                return false;
            }
            letters[size] = letter;
            size++;
            return true;
        }

        int read(Net into) {
            into.clear();
            fault = 0;
            faultAt = NONE;
            why = 0;
            at = 0;
            skipBlanks();
            for (int clause = 0; clause < MOST_LETTERS && fault == 0 && at < size; clause++) {
                readClause(into, letters[at]);
                skipBlanks();
            }
            size = 0;
            return fault;
        }

        private void readClause(Net into, int word) {
            if (word != 's' && word != 'e' && word != 'l') {
                blame(MISPLACED, at);
                return;
            }
            if (into.isFull(word)) {
                blame(TOO_MANY, at);
                return;
            }
            at++;
            int first = readNumber();
            checkStation(into, word, first);
            int second = readNumber();
            checkStation(into, word, second);
            checkSense(into, word, first, second);
            readEnd();
            if (fault == 0) {
                into.add(word, first, second);
            }
        }

        /** Answers 0 behind a fault; of several faults the first one met stays. */
        private int readNumber() {
            skipBlanks();
            numberAt = at;
            int figures = 0;
            int value = 0;
            while (at < size && isFigure(letters[at])) {
                figures++;
                value = figures <= 2 ? value * 10 + letters[at] - '0' : value;
                at++;
            }
            if (figures == 0) {
                blame(MISPLACED, at);
            }
            if (figures > 2) {
                blame(NO_SUCH, numberAt);
            }
            return fault == 0 ? value : 0;
        }

        private void checkStation(Net net, int word, int number) {
            if (word != 's' && number >= net.stations) {
                blame(NO_SUCH, numberAt);
            }
        }

        private void checkSense(Net net, int word, int a, int b) {
            if (fault != 0 || word == 's') {
                return;
            }
            int reason = 0;
            if (a == b) {
                reason = TO_ITSELF;
            } else if (word == 'e' && net.joined(a, b)) {
                reason = RING;
            } else if (word == 'l' && !net.joined(a, b)) {
                reason = GAP;
            }
            if (reason != 0) {
                blame(SENSELESS, numberAt);
                why = reason;
            }
        }

        private void readEnd() {
            skipBlanks();
            if (at < size && letters[at] == ';') {
                at++;
            } else {
                blame(MISPLACED, at);
            }
        }

        private void skipBlanks() {
            while (at < size && letters[at] == BLANK) {
                at++;
            }
        }

        private void blame(int number, int where) {
            if (fault == 0) {
                fault = number;
                faultAt = where;
            }
        }

        private static boolean isFigure(int letter) {
            return letter >= '0' && letter <= '9';
        }
    }

    /** What a text tells; it stays so until the next text. */
    private static final class Net {
        int stations, stretches, lines;
        final int[] x = new int[MOST_STATIONS];
        final int[] y = new int[MOST_STATIONS];
        final int[] a = new int[MOST_STRETCHES];
        final int[] b = new int[MOST_STRETCHES];
        final int[] from = new int[MOST_LINES];
        final int[] to = new int[MOST_LINES];

        /** The set of all stations of the station's tree. */
        final int[] tree = new int[MOST_STATIONS];
        /** The trees of A and of B ahead of the stretch that joins them. */
        final int[] treeOfA = new int[MOST_STRETCHES];
        final int[] treeOfB = new int[MOST_STRETCHES];

        /** The stretches of each line as it goes, MOST_STRETCHES places each. */
        final int[] row = new int[MOST_LINES * MOST_STRETCHES];
        final int[] rowLength = new int[MOST_LINES];
        /** The set of lines along each stretch. */
        final int[] carried = new int[MOST_STRETCHES];
        /** Where a line goes through a station: the stretches ahead and behind, MOST_STATIONS places a line. */
        final int[] comes = new int[MOST_LINES * MOST_STATIONS];
        final int[] goes = new int[MOST_LINES * MOST_STATIONS];

        /** What one direction must be turned by, so that two stretches that meet go one behind the other; NONE: they don't meet. */
        final int[][] meet = new int[MOST_STRETCHES][MOST_STRETCHES];
        /** How many lines go from one stretch on to the other. */
        final int[][] through = new int[MOST_STRETCHES][MOST_STRETCHES];
        private final int[] lead = new int[MOST_STATIONS];

        void clear() {
            stations = 0;
            stretches = 0;
            lines = 0;
            Arrays.fill(carried, 0);
            Arrays.fill(comes, NONE);
            Arrays.fill(goes, NONE);
            for (int e = 0; e < MOST_STRETCHES; e++) {
                Arrays.fill(meet[e], NONE);
                Arrays.fill(through[e], 0);
            }
        }

        boolean isFull(int word) {
            if (word == 's') {
                return stations >= MOST_STATIONS;
            }
            return word == 'e' ? stretches >= MOST_STRETCHES : lines >= MOST_LINES;
        }

        void add(int word, int first, int second) {
            if (isFull(word)) {
                return;
            }
            if (word == 's') {
                addStation(first, second);
            } else if (word == 'e') {
                addStretch(first, second);
            } else {
                addLine(first, second);
            }
        }

        boolean joined(int s, int t) {
            return has(tree[s], t);
        }

        int least(int s) {
            for (int t = 0; t < s; t++) {
                if (has(tree[s], t)) {
                    return t;
                }
            }
            return s;
        }

        int degree(int s) {
            int found = 0;
            for (int e = 0; e < stretches; e++) {
                found += touches(e, s) ? 1 : 0;
            }
            return found;
        }

        private boolean touches(int e, int s) {
            return a[e] == s || b[e] == s;
        }

        private void addStation(int atX, int atY) {
            x[stations] = atX;
            y[stations] = atY;
            tree[stations] = 1 << stations;
            stations++;
        }

        private void addStretch(int start, int end) {
            int e = stretches;
            a[e] = start;
            b[e] = end;
            treeOfA[e] = tree[start];
            treeOfB[e] = tree[end];
            int both = tree[start] | tree[end];
            for (int s = 0; s < stations; s++) {
                if (has(both, s)) {
                    tree[s] = both;
                }
            }
            for (int f = 0; f < e; f++) {
                meet[e][f] = meeting(e, f);
                meet[f][e] = meet[e][f];
            }
            stretches++;
        }

        private int meeting(int e, int f) {
            if (a[e] == a[f] || b[e] == b[f]) {
                return OPPOSITE;
            }
            return a[e] == b[f] || b[e] == a[f] ? 0 : NONE;
        }

        private void addLine(int start, int end) {
            int l = lines;
            from[l] = start;
            to[l] = end;
            rowLength[l] = 0;
            lines++;
            leadTo(end);
            int s = start;
            for (int k = 0; k < MOST_STRETCHES && s != end && lead[s] != NONE; k++) {
                int e = lead[s];
                if (k > 0) {
                    passThrough(l, s, row[l * MOST_STRETCHES + k - 1], e);
                }
                row[l * MOST_STRETCHES + k] = e;
                rowLength[l] = k + 1;
                carried[e] |= 1 << l;
                s = a[e] == s ? b[e] : a[e];
            }
        }

        private void passThrough(int l, int s, int e, int f) {
            comes[l * MOST_STATIONS + s] = e;
            goes[l * MOST_STATIONS + s] = f;
            through[e][f]++;
            through[f][e]++;
        }

        /** For each station of the tree the stretch by which one comes nearer to the end. */
        private void leadTo(int end) {
            Arrays.fill(lead, NONE);
            int reached = 1 << end;
            for (int round = 0; round < MOST_STRETCHES; round++) {
                for (int e = 0; e < stretches; e++) {
                    boolean atA = has(reached, a[e]);
                    if (atA != has(reached, b[e])) {
                        int next = atA ? b[e] : a[e];
                        lead[next] = e;
                        reached |= 1 << next;
                    }
                }
            }
        }
    }

    /** What may be changed, undone and kept. */
    private static final class Setting {
        int way;
        int offset;
        final int[] x = new int[MOST_STATIONS];
        final int[] y = new int[MOST_STATIONS];
        final int[] fixed = new int[MOST_STRETCHES];

        void start(Net net) {
            way = 0;
            offset = 1;
            System.arraycopy(net.x, 0, x, 0, MOST_STATIONS);
            System.arraycopy(net.y, 0, y, 0, MOST_STATIONS);
            Arrays.fill(fixed, NONE);
        }

        void become(Setting other) {
            way = other.way;
            offset = other.offset;
            System.arraycopy(other.x, 0, x, 0, MOST_STATIONS);
            System.arraycopy(other.y, 0, y, 0, MOST_STATIONS);
            System.arraycopy(other.fixed, 0, fixed, 0, MOST_STRETCHES);
        }

        int fixedSet() {
            int set = 0;
            for (int e = 0; e < MOST_STRETCHES; e++) {
                if (fixed[e] != NONE) {
                    set |= 1 << e;
                }
            }
            return set;
        }

        void scatter(int seed, int stations) {
            long lot = seed;
            for (int s = 0; s < stations && s < MOST_STATIONS; s++) {
                lot = lot * 16807L % 2147483647L;
                x[s] = (int) (lot % 100);
                lot = lot * 16807L % 2147483647L;
                y[s] = (int) (lot % 100);
            }
        }
    }

    /** What was so ahead of the latest changes: a ring, in which the newest takes the oldest's place. */
    private static final class Past {
        int size;
        private int oldest;
        private final Setting[] settings = new Setting[MOST_UNDONE];

        Past() {
            for (int i = 0; i < MOST_UNDONE; i++) {
                settings[i] = new Setting();
            }
        }

        void clear() {
            size = 0;
        }

        void hold(Setting setting) {
            if (size == MOST_UNDONE) {
                oldest = (oldest + 1) % MOST_UNDONE;
                size--;
            }
            settings[(oldest + size) % MOST_UNDONE].become(setting);
            size++;
        }

        boolean giveBack(Setting setting) {
            if (size == 0) {
                return false;
            }
            size--;
            setting.become(settings[(oldest + size) % MOST_UNDONE]);
            return true;
        }
    }

    /** The best plan of a net as it is set. */
    private static final class Chart {
        int cost;
        /** The best plan's directions; NONE: there is no plan. */
        final int[] direction = new int[MOST_STRETCHES];
        private final int[] truth = new int[MOST_STRETCHES];
        private final int[] trial = new int[MOST_STRETCHES];
        private final Setting setting;
        Net net;
        private int least;

        Chart(Net drawn, Setting set) {
            net = drawn;
            setting = set;
        }

        void draw(Net drawn) {
            net = drawn;
            for (int e = 0; e < net.stretches; e++) {
                truth[e] = trueOf(net, setting, e);
            }
            Arrays.fill(direction, NONE);
            least = FAR;
            seek(0, 0);
            cost = least == FAR ? NONE : least;
        }

        /** Plans come in the order of the document, so that of like ones the first stays. */
        private void seek(int e, int soFar) {
            if (e >= net.stretches || e >= MOST_STRETCHES) {
                least = soFar;
                System.arraycopy(trial, 0, direction, 0, e);
                return;
            }
            int choices = setting.fixed[e] == NONE ? 3 : 1;
            for (int i = 0; i < choices; i++) {
                trial[e] = choice(e, i);
                int more = added(e);
                if (more != NONE && soFar + more < least) {
                    seek(e + 1, soFar + more);
                }
            }
        }

        int tallyPlans() {
            return tallyFrom(0);
        }

        private int tallyFrom(int e) {
            if (e >= net.stretches || e >= MOST_STRETCHES) {
                return 1;
            }
            int found = 0;
            int choices = setting.fixed[e] == NONE ? 3 : 1;
            for (int i = 0; i < choices; i++) {
                trial[e] = choice(e, i);
                if (isFree(e)) {
                    found += tallyFrom(e + 1);
                }
            }
            return found;
        }

        private int choice(int e, int i) {
            if (setting.fixed[e] != NONE) {
                return setting.fixed[e];
            }
            int more = i == 2 ? -1 : i;
            return (truth[e] + more) & 7;
        }

        private boolean isFree(int e) {
            for (int f = 0; f < e; f++) {
                if (net.meet[f][e] != NONE && turned(trial, f, e) == OPPOSITE) {
                    return false;
                }
            }
            return true;
        }

        /** What a stretch's direction costs together with those ahead of it; NONE: one that it meets goes the same way. */
        private int added(int e) {
            int more = setting.offset * apart(trial[e], truth[e]);
            for (int f = 0; f < e; f++) {
                if (net.meet[f][e] != NONE) {
                    int eighths = turned(trial, f, e);
                    if (eighths == OPPOSITE) {
                        return NONE;
                    }
                    more += net.through[f][e] * counted(setting.way, eighths);
                }
            }
            return more;
        }

        /** The bend between two stretches that meet; OPPOSITE, if both go from the station in one direction. */
        private int turned(int[] directions, int e, int f) {
            return SHORTER[(directions[f] - directions[e] + net.meet[e][f]) & 7];
        }

        int off(int e) {
            return cost == NONE ? NONE : apart(direction[e], truth[e]);
        }

        int bendsOf(int l) {
            if (cost == NONE) {
                return NONE;
            }
            int sum = 0;
            for (int k = 1; k < net.rowLength[l]; k++) {
                int e = net.row[l * MOST_STRETCHES + k - 1];
                int f = net.row[l * MOST_STRETCHES + k];
                sum += counted(setting.way, turned(direction, e, f));
            }
            return sum;
        }

        int bends() {
            if (cost == NONE) {
                return NONE;
            }
            int sum = 0;
            for (int l = 0; l < net.lines; l++) {
                sum += bendsOf(l);
            }
            return sum;
        }
    }

    /** Lengths, places and signs by the best plan. */
    private static final class Places {
        int total;
        int signs;
        final int[] length = new int[MOST_STRETCHES];
        final int[] x = new int[MOST_STATIONS];
        final int[] y = new int[MOST_STATIONS];
        final int[] sign = new int[MOST_STATIONS];
        private final int[] trial = new int[MOST_STRETCHES];
        /** Row e: where stations lie by the stretches ahead of e, each tree of these by itself. */
        private final int[][] rowX = new int[MOST_STRETCHES + 1][MOST_STATIONS];
        private final int[][] rowY = new int[MOST_STRETCHES + 1][MOST_STATIONS];
        private final Chart chart;
        private final int[] direction;
        private Net net;

        Places(Chart drawn) {
            chart = drawn;
            direction = drawn.direction;
            net = drawn.net;
        }

        void settle() {
            net = chart.net;
            total = FAR;
            signs = NONE;
            Arrays.fill(length, NONE);
            Arrays.fill(x, NO_PLACE);
            Arrays.fill(y, NO_PLACE);
            Arrays.fill(sign, NONE);
            if (chart.cost != NONE) {
                stretchOut(0, 0);
            }
            if (total == FAR) {
                total = NONE;
            } else {
                putSigns();
            }
        }

        /** Lengths come in the order of the document, so that of like ones the first stays. */
        private void stretchOut(int e, int soFar) {
            if (e >= net.stretches || e >= MOST_STRETCHES) {
                take(soFar);
                return;
            }
            int others = net.stretches - e - 1;
            for (int n = 1; n <= MOST_LENGTH && soFar + n + others < total; n++) {
                trial[e] = n;
                join(e, n);
                if (isClear(e)) {
                    stretchOut(e + 1, soFar + n);
                }
            }
        }

        private void take(int sum) {
            total = sum;
            int e = net.stretches;
            System.arraycopy(trial, 0, length, 0, e);
            for (int s = 0; s < net.stations; s++) {
                int origin = net.least(s);
                x[s] = rowX[e][s] - rowX[e][origin];
                y[s] = rowY[e][s] - rowY[e][origin];
            }
        }

        /** Moves the tree of B, so that it lies at the stretch's end. */
        private void join(int e, int n) {
            int a = net.a[e];
            int b = net.b[e];
            int dx = rowX[e][a] + n * STEP_X[direction[e]] - rowX[e][b];
            int dy = rowY[e][a] + n * STEP_Y[direction[e]] - rowY[e][b];
            for (int s = 0; s < net.stations; s++) {
                boolean moved = has(net.treeOfB[e], s);
                rowX[e + 1][s] = rowX[e][s] + (moved ? dx : 0);
                rowY[e + 1][s] = rowY[e][s] + (moved ? dy : 0);
            }
        }

        private boolean isClear(int e) {
            int[] byX = rowX[e + 1];
            int[] byY = rowY[e + 1];
            for (int s = 0; s < net.stations; s++) {
                if (has(net.treeOfA[e], s) && isTaken(byX, byY, net.treeOfB[e], byX[s], byY[s])) {
                    return false;
                }
            }
            return true;
        }

        private boolean isTaken(int[] byX, int[] byY, int stations, int atX, int atY) {
            for (int s = 0; s < net.stations; s++) {
                if (has(stations, s) && byX[s] == atX && byY[s] == atY) {
                    return true;
                }
            }
            return false;
        }

        private void putSigns() {
            signs = 0;
            for (int s = 0; s < net.stations; s++) {
                sign[s] = signOf(s);
                signs += sign[s] == NONE ? 0 : 1;
            }
        }

        private int signOf(int s) {
            for (int d = 0; d < 8; d++) {
                if (!isUsed(s, d) && !isTaken(x, y, net.tree[s], x[s] + STEP_X[d], y[s] + STEP_Y[d])) {
                    return d;
                }
            }
            return NONE;
        }

        private boolean isUsed(int s, int d) {
            for (int e = 0; e < net.stretches; e++) {
                if (net.a[e] == s && direction[e] == d || net.b[e] == s && (direction[e] ^ OPPOSITE) == d) {
                    return true;
                }
            }
            return false;
        }
    }

    /**
     * The orders of lines by the best plan.
     * With three lines at most one pair of stretches of a station is shared by two lines or more,
     * so stretches whose orders bear on one another stand in chains, and the fewest crossings of a chain
     * are found going along it once.
     */
    private static final class Sides {
        int total;
        /** Each stretch's order, by its number in RANKS; NONE: not settled yet. */
        private final int[] ranking = new int[MOST_STRETCHES];
        /** The set of pairs that cross at each station. */
        private final int[] crossed = new int[MOST_STATIONS];
        /** Pairs that come along a stretch and part at its A (place 2e) or B (2e + 1), and those that must then have the greater line to the left, not to cross: A to B. */
        private final int[] parting = new int[MOST_STRETCHES * 2];
        private final int[] partingSwapped = new int[MOST_STRETCHES * 2];
        /** How many of the pairs that part at a stretch's ends cross, for each of its orders. */
        private final int[] partingCrossings = new int[MOST_STRETCHES * RANKINGS];
        /** Pairs that go through a station along the same two stretches, and whether these are told head to head or tail to tail. */
        private final int[] pairing = new int[MOST_STATIONS];
        private final int[] pairingSwapped = new int[MOST_STATIONS];
        private final int[] one = new int[MOST_STATIONS];
        private final int[] two = new int[MOST_STATIONS];
        private final int[] fewest = new int[RANKINGS];
        private final int[] fewestNext = new int[RANKINGS];
        /** The set of stretches that a chain has come by. */
        private int seen;
        private final Chart chart;
        private final int[] direction;
        private Net net;

        Sides(Chart drawn) {
            chart = drawn;
            direction = drawn.direction;
            net = drawn.net;
        }

        void settle() {
            net = chart.net;
            Arrays.fill(crossed, 0);
            Arrays.fill(ranking, NONE);
            total = NONE;
            if (chart.cost != NONE) {
                lookAtStations();
                countPartings();
                total = fewestCrossings();
                chooseRankings();
                markCrossed();
            }
        }

        int lineAt(int e, int i) {
            if (total == NONE) {
                return NONE;
            }
            int passed = 0;
            for (int k = 0; k < MOST_LINES; k++) {
                int l = RANKS[ranking[e] * MOST_LINES + k];
                if (has(net.carried[e], l)) {
                    if (passed == i) {
                        return l;
                    }
                    passed++;
                }
            }
            return NONE;
        }

        int crossedAt(int s) {
            return total == NONE ? NONE : BITS_IN[crossed[s]];
        }

        int crossedBy(int l, int m) {
            if (total == NONE) {
                return NONE;
            }
            int found = 0;
            for (int s = 0; s < net.stations; s++) {
                found += has(crossed[s], pairOf(l, m)) ? 1 : 0;
            }
            return found;
        }

        private static int pairOf(int l, int m) {
            return l + m - 1;
        }

        private void lookAtStations() {
            Arrays.fill(parting, 0);
            Arrays.fill(partingSwapped, 0);
            Arrays.fill(pairing, 0);
            Arrays.fill(pairingSwapped, 0);
            for (int s = 0; s < net.stations; s++) {
                for (int l = 0; l < net.lines; l++) {
                    for (int m = l + 1; m < net.lines; m++) {
                        lookAt(s, l, m);
                    }
                }
            }
        }

        private void lookAt(int s, int l, int m) {
            int comesL = net.comes[l * MOST_STATIONS + s];
            int goesL = net.goes[l * MOST_STATIONS + s];
            int comesM = net.comes[m * MOST_STATIONS + s];
            int goesM = net.goes[m * MOST_STATIONS + s];
            if (comesL == NONE || comesM == NONE) {
                return;
            }
            boolean firstShared = comesL == comesM || comesL == goesM;
            boolean secondShared = goesL == comesM || goesL == goesM;
            int pair = 1 << pairOf(l, m);
            if (firstShared && secondShared) {
                pairUp(s, comesL, goesL, pair);
            } else if (firstShared) {
                part(s, comesL, goesL, comesL == comesM ? goesM : comesM, pair);
            } else if (secondShared) {
                part(s, goesL, comesL, goesL == comesM ? goesM : comesM, pair);
            }
        }

        private void pairUp(int s, int e, int f, int pair) {
            one[s] = e;
            two[s] = f;
            pairing[s] |= pair;
            if (net.meet[e][f] == OPPOSITE) {
                pairingSwapped[s] |= pair;
            }
        }

        private void part(int s, int e, int lesserOn, int greaterOn, int pair) {
            boolean towardA = net.a[e] == s;
            boolean lesserLeft = turnOf(e, lesserOn) > turnOf(e, greaterOn);
            int place = towardA ? 2 * e : 2 * e + 1;
            parting[place] |= pair;
            if (lesserLeft == towardA) {
                partingSwapped[place] |= pair;
            }
        }

        /** By how many eighths a stretch turns behind another one, -3 to 3. */
        private int turnOf(int e, int f) {
            return ((direction[f] - direction[e] + net.meet[e][f] + 3) & 7) - 3;
        }

        private void countPartings() {
            for (int e = 0; e < net.stretches; e++) {
                for (int i = 0; i < RANKINGS; i++) {
                    partingCrossings[e * RANKINGS + i] =
                        BITS_IN[partingCrossed(2 * e, i)] + BITS_IN[partingCrossed(2 * e + 1, i)];
                }
            }
        }

        /** The first ranking of each stretch that leaves the fewest crossings within reach. */
        private void chooseRankings() {
            for (int e = 0; e < net.stretches; e++) {
                boolean found = false;
                for (int i = 0; i < RANKINGS && !found; i++) {
                    ranking[e] = i;
                    found = isAlone(e) || fewestCrossings() == total;
                }
            }
        }

        private boolean isAlone(int e) {
            return BITS_IN[net.carried[e] & 7] < 2;
        }

        /** The fewest crossings that there can be with the rankings that are settled. */
        private int fewestCrossings() {
            seen = 0;
            int sum = 0;
            for (int e = 0; e < net.stretches; e++) {
                if (!has(seen, e) && isChainEnd(e)) {
                    sum += alongChain(e);
                }
            }
            return sum;
        }

        private boolean isChainEnd(int e) {
            return !isPaired(e, net.a[e]) || !isPaired(e, net.b[e]);
        }

        private boolean isPaired(int e, int s) {
            return pairing[s] != 0 && (one[s] == e || two[s] == e);
        }

        private int alongChain(int start) {
            int e = start;
            seen |= 1 << e;
            for (int i = 0; i < RANKINGS; i++) {
                fewest[i] = ranking[e] == NONE || ranking[e] == i ? partingCrossings[e * RANKINGS + i] : FAR;
            }
            int s = nextJoint(e);
            for (int step = 0; step < MOST_STRETCHES && s != NONE; step++) {
                e = otherAt(s, e);
                seen |= 1 << e;
                goOn(s, e);
                s = nextJoint(e);
            }
            int least = FAR;
            for (int i = 0; i < RANKINGS; i++) {
                least = Math.min(least, fewest[i]);
            }
            return least;
        }

        private void goOn(int s, int e) {
            for (int i = 0; i < RANKINGS; i++) {
                boolean mayBe = ranking[e] == NONE || ranking[e] == i;
                int least = FAR;
                for (int j = 0; j < RANKINGS && mayBe; j++) {
                    int crossings = BITS_IN[(SIDES[i] ^ SIDES[j] ^ pairingSwapped[s]) & pairing[s]];
                    least = Math.min(least, fewest[j] + crossings);
                }
                fewestNext[i] = mayBe ? least + partingCrossings[e * RANKINGS + i] : FAR;
            }
            System.arraycopy(fewestNext, 0, fewest, 0, RANKINGS);
        }

        /** The station at which the chain goes on to a stretch that is not seen yet. */
        private int nextJoint(int e) {
            int a = net.a[e];
            int b = net.b[e];
            if (isPaired(e, a) && !has(seen, otherAt(a, e))) {
                return a;
            }
            return isPaired(e, b) && !has(seen, otherAt(b, e)) ? b : NONE;
        }

        private int otherAt(int s, int e) {
            return one[s] == e ? two[s] : one[s];
        }

        private int partingCrossed(int place, int i) {
            return (SIDES[i] ^ ~partingSwapped[place]) & parting[place];
        }

        private void markCrossed() {
            for (int s = 0; s < net.stations; s++) {
                if (pairing[s] != 0) {
                    int changed = SIDES[ranking[one[s]]] ^ SIDES[ranking[two[s]]] ^ pairingSwapped[s];
                    crossed[s] = changed & pairing[s];
                }
            }
            for (int e = 0; e < net.stretches; e++) {
                crossed[net.a[e]] |= partingCrossed(2 * e, ranking[e]);
                crossed[net.b[e]] |= partingCrossed(2 * e + 1, ranking[e]);
            }
        }
    }
}
