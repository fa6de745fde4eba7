import java.util.Arrays;

/**
 * Bounds on waits and heaps: stairs of what may come and of what is surely served, flows over
 * nodes, rows that were seen. The words in capitals of the document are used here in small letters.
 */
public final class BurstBounds {
    public static final int UNKNOWN = -1, OUTSIDE = -2, STATE = -3, FULL = -4, NONE = -9;
    public static final long LOST = Long.MIN_VALUE;

    private static final int NO_FAULT = -10, NULL = -11, CAST = -12, INDEX = -13, SIZE = -14;
    private static final int FINE = 0;

    private static final int TICKS = 41, LAST_TICK = 40, LAST_WAITING_TICK = 20;
    private static final int MOST = 99999, MOST_BURST = 9999, MOST_PACE = 999;
    private static final int MOST_STAIRS = 24, MOST_FLOWS = 5, NODES = 6, LONGEST_WAY = 4;
    private static final int SHEETS = 4, LANES = 3, MOST_CELLS = 60, LONGEST_ROW = 40;
    private static final int MOST_LET_IN = 99;

    private static final int STEPS = 0, BUCKET = 1, LATE = 2;
    private static final int RANKS = 0, FIRST_COME = 2;

    private final Stairs stairs;
    private final Network network;
    private final Seen seen;
    private final Sheets sheets;
    private final TextReader reader;
    private final int[] taken;
    private final int[] summed;
    private int traced;
    private int latestFault;

    public BurstBounds() {
        stairs = new Stairs();
        network = new Network();
        seen = new Seen();
        sheets = new Sheets();
        reader = new TextReader();
        taken = new int[MOST_CELLS];
        summed = new int[TICKS];
        traced = 0;
        latestFault = 0;
    }

    // ---- 1 stairs

    public int steps(int sheet, int lane, int i, int n) {
        return ended(stepsOf(sheet, lane, i, n));
    }

    public int bucket(int b, int r) {
        if (!isUpTo(b, MOST_BURST) || !isUpTo(r, MOST_PACE)) {
            return OUTSIDE;
        }
        if (stairs.isFull()) {
            return FULL;
        }
        Rows.fillBucket(b, r, stairs.nextRow());
        return stairs.keepNext(BUCKET);
    }

    public int late(int l, int r) {
        if (!isUpTo(l, LAST_TICK) || !isUpTo(r, MOST_PACE)) {
            return OUTSIDE;
        }
        if (stairs.isFull()) {
            return FULL;
        }
        Rows.fillLate(l, r, stairs.nextRow());
        return stairs.keepNext(LATE);
    }

    public int text(int sheet, int lane, int i, int n) {
        return ended(stairOfText(sheet, lane, i, n));
    }

    public int at(int f, int t) {
        if (!stairs.has(f)) {
            return UNKNOWN;
        }
        if (!isUpTo(t, LAST_TICK)) {
            return OUTSIDE;
        }
        return stairs.row(f)[t];
    }

    private int stepsOf(int sheet, int lane, int i, int n) {
        int answer = sheets.take(sheet, lane, i, n, taken);
        if (answer != FINE) {
            return answer;
        }
        if (!isRowOfSteps(n)) {
            return OUTSIDE;
        }
        if (stairs.isFull()) {
            return FULL;
        }
        Rows.fillSteps(taken, n, stairs.nextRow());
        return stairs.keepNext(STEPS);
    }

    private int stairOfText(int sheet, int lane, int i, int n) {
        int answer = sheets.take(sheet, lane, i, n, taken);
        if (answer != FINE) {
            return answer;
        }
        int wrong = reader.read(taken, n);
        if (wrong != TextReader.SOUND) {
            return -100 - wrong;
        }
        if (stairs.isFull()) {
            return FULL;
        }
        Rows.fillSame(reader.whole, stairs.nextRow());
        return stairs.keepNext(reader.kind);
    }

    /** Whether the n cells that were taken are 1 to 40 numbers, each 0 .. 999. */
    private boolean isRowOfSteps(int n) {
        if (n < 1 || n > LONGEST_ROW) {
            return false;
        }
        for (int j = 0; j < n; j++) {
            if (!isUpTo(taken[j], MOST_PACE)) {
                return false;
            }
        }
        return true;
    }

    // ---- 2 made from others

    public int make(int what, int f, int g) {
        if (!stairs.has(f) || !stairs.has(g)) {
            return UNKNOWN;
        }
        if (!isUpTo(what, 4)) {
            return OUTSIDE;
        }
        if (stairs.isFull()) {
            return FULL;
        }
        Rows.fillMade(what, stairs.row(f), stairs.row(g), stairs.nextRow());
        return stairs.keepNext(STEPS);
    }

    public int move(int what, int f, int d) {
        if (!stairs.has(f)) {
            return UNKNOWN;
        }
        if (!isUpTo(what, 1) || !isUpTo(d, LAST_TICK)) {
            return OUTSIDE;
        }
        if (stairs.isFull()) {
            return FULL;
        }
        if (what == 0) {
            Rows.fillHeldBack(stairs.row(f), d, stairs.nextRow());
        } else {
            Rows.fillAhead(stairs.row(f), d, stairs.nextRow());
        }
        return stairs.keepNext(STEPS);
    }

    public int delay(int f, int g) {
        if (!stairs.has(f) || !stairs.has(g)) {
            return UNKNOWN;
        }
        return Rows.longestWait(stairs.row(f), stairs.row(g), LAST_WAITING_TICK);
    }

    public int heap(int f, int g) {
        if (!stairs.has(f) || !stairs.has(g)) {
            return UNKNOWN;
        }
        return Rows.greatestHeap(stairs.row(f), stairs.row(g));
    }

    public int within(int f, int g) {
        if (!stairs.has(f) || !stairs.has(g)) {
            return UNKNOWN;
        }
        return Rows.greatestHeap(stairs.row(f), stairs.row(g)) == 0 ? 1 : 0;
    }

    // ---- 3 nodes, flows

    public int serve(int v, int f) {
        if (!isUpTo(v, NODES - 1) || (f != NONE && !stairs.has(f))) {
            return UNKNOWN;
        }
        int before = network.servedBy[v];
        if (f == NONE) {
            network.serveNothing(v);
        } else {
            network.serveBy(v, f, stairs.row(f));
        }
        return before;
    }

    public int flow(int f, int sheet, int lane, int i, int n) {
        return ended(newFlow(f, sheet, lane, i, n));
    }

    public int ofFlow(int w, int what) {
        if (!network.hasFlow(w)) {
            return UNKNOWN;
        }
        if (what == 0) {
            return network.flowStairs[w];
        }
        if (what == 1) {
            return network.lengths[w];
        }
        if (what >= 10 && network.hasPlace(w, what - 10)) {
            return network.ways[w][what - 10];
        }
        return OUTSIDE;
    }

    public int rule(int v) {
        if (!isUpTo(v, FIRST_COME)) {
            return OUTSIDE;
        }
        int before = network.ruleNow;
        network.ruleBy(v);
        return before;
    }

    public int ring() {
        return network.hasRing() ? 1 : 0;
    }

    public int latest(int w, int k) {
        if (!network.hasPlace(w, k)) {
            return UNKNOWN;
        }
        if (!network.isBounded()) {
            return STATE;
        }
        return network.latestAt(w, k);
    }

    public int there(int w, int k, int what, int t) {
        if (!network.hasPlace(w, k)) {
            return UNKNOWN;
        }
        if (!isUpTo(what, 2) || !isUpTo(t, LAST_TICK)) {
            return OUTSIDE;
        }
        if (!network.isBounded()) {
            return STATE;
        }
        if (what == 0) {
            return network.comesAt(w, k)[t];
        }
        return what == 1 ? network.hasAt(w, k)[t] : network.goesOnFrom(w, k)[t];
    }

    public int heapAt(int v) {
        if (!isUpTo(v, NODES - 1)) {
            return UNKNOWN;
        }
        if (network.servedBy[v] == NONE || !network.isBounded()) {
            return STATE;
        }
        return network.greatestHeapIn(v);
    }

    public int bound(int w, int what) {
        if (!network.hasFlow(w)) {
            return UNKNOWN;
        }
        if (!isUpTo(what, 1)) {
            return OUTSIDE;
        }
        if (!network.isBounded() || (what == 1 && network.ruleNow == FIRST_COME)) {
            return STATE;
        }
        return what == 0 ? network.waitByNodes(w) : network.waitAtOnce(w);
    }

    private int newFlow(int f, int sheet, int lane, int i, int n) {
        if (!stairs.has(f)) {
            return UNKNOWN;
        }
        int answer = sheets.take(sheet, lane, i, n, taken);
        if (answer == FINE) {
            answer = whyNoWay(n);
        }
        if (answer != FINE) {
            return answer;
        }
        if (network.isFull()) {
            return FULL;
        }
        return network.addFlow(f, stairs.row(f), taken, n);
    }

    /** Why the n cells that were taken are no way; fine, if they are one. */
    private int whyNoWay(int n) {
        if (n < 1 || n > LONGEST_WAY) {
            return OUTSIDE;
        }
        for (int k = 0; k < n; k++) {
            if (!isUpTo(taken[k], NODES - 1)) {
                return UNKNOWN;
            }
        }
        for (int k = 1; k < n; k++) {
            for (int j = 0; j < k; j++) {
                if (taken[j] == taken[k]) {
                    return STATE;
                }
            }
        }
        return FINE;
    }

    // ---- 4 seen

    public int see(int sheet, int lane, int i, int n) {
        return ended(seenOf(sheet, lane, i, n));
    }

    public int keeps(int f, int what) {
        if (!stairs.has(f)) {
            return UNKNOWN;
        }
        if (!isUpTo(what, 1)) {
            return OUTSIDE;
        }
        if (seen.count == 0) {
            return STATE;
        }
        int breaks = seen.firstBreak(stairs.row(f));
        if (what == 1) {
            return breaks;
        }
        return breaks == NONE ? 1 : 0;
    }

    public int burst(int r) {
        if (!isUpTo(r, MOST_PACE)) {
            return OUTSIDE;
        }
        if (seen.count == 0) {
            return STATE;
        }
        return seen.leastBurst(r);
    }

    public int shape(int f, int what) {
        if (!stairs.has(f)) {
            return UNKNOWN;
        }
        boolean ofTick = what >= 100 && what <= 100 + LAST_TICK;
        if (!ofTick && !isUpTo(what, 1)) {
            return OUTSIDE;
        }
        if (seen.count == 0) {
            return STATE;
        }
        seen.shapeBy(stairs.row(f));
        if (ofTick) {
            return seen.shaped[what - 100];
        }
        return what == 0 ? seen.mostHeld() : seen.latestOfShaped();
    }

    public int letIn(int f, int g, int d) {
        if (!stairs.has(f) || !stairs.has(g)) {
            return UNKNOWN;
        }
        if (!isUpTo(d, LAST_TICK)) {
            return OUTSIDE;
        }
        Arrays.fill(summed, 0);
        for (int n = 1; n <= MOST_LET_IN; n++) {
            Rows.fillSum(summed, stairs.row(f), summed);
            int wait = Rows.longestWait(summed, stairs.row(g), LAST_WAITING_TICK);
            if (wait == NONE || wait > d) {
                return n - 1;
            }
        }
        return MOST_LET_IN;
    }

    private int seenOf(int sheet, int lane, int i, int n) {
        int answer = sheets.take(sheet, lane, i, n, taken);
        if (answer != FINE) {
            return answer;
        }
        if (!isRowOfSteps(n)) {
            return OUTSIDE;
        }
        seen.replaceBy(taken, n);
        return n;
    }

    // ---- 5 sheets, parts

    public int sheet(int k, int lane, int n) {
        return ended(sheets.renew(k, lane, n));
    }

    public int lose(int k) {
        if (!sheets.has(k)) {
            return UNKNOWN;
        }
        return sheets.drop(k);
    }

    public int put(int k, int i, int v) {
        return ended(sheets.write(k, i, v));
    }

    public long cell(int k, int i, int lane) {
        int answer = ended(sheets.whyUnread(k, i, lane));
        return answer == FINE ? sheets.cells[k][i] : LOST;
    }

    public int copy(int k, int i, int other, int j, int n) {
        return ended(sheets.bring(k, i, other, j, n));
    }

    public int tell(int f) {
        if (!stairs.has(f)) {
            return UNKNOWN;
        }
        int kind = stairs.kinds[f];
        if (kind == LATE) {
            return toldByLate(f);
        }
        return kind == BUCKET ? toldByBucket(f) : toldBySteps(f);
    }

    public int draw(int f) {
        if (!stairs.has(f)) {
            return UNKNOWN;
        }
        if (stairs.kinds[f] == LATE) {
            leaveInTrace(5);
            return 60;
        }
        leaveInTrace(4);
        return f;
    }

    public int as(int f, int kind) {
        return ended(takenAs(f, kind));
    }

    public int trace() {
        return traced;
    }

    public int fault() {
        return latestFault;
    }

    public int many(int what) {
        switch (what) {
            case 0:
                return stairs.count;
            case 1:
                return network.flows;
            case 2:
                return seen.count;
            case 3:
                return network.servingNodes();
            default:
                return OUTSIDE;
        }
    }

    private int takenAs(int f, int kind) {
        if (!stairs.has(f)) {
            return UNKNOWN;
        }
        if (!isUpTo(kind, LATE)) {
            return OUTSIDE;
        }
        // each kind is one of the lesser kinds, too
        return stairs.kinds[f] >= kind ? 1 : CAST;
    }

    private int toldBySteps(int f) {
        leaveInTrace(1);
        return stairs.row(f)[10];
    }

    private int toldByBucket(int f) {
        leaveInTrace(2);
        return toldBySteps(f) + 100000;
    }

    private int toldByLate(int f) {
        leaveInTrace(3);
        int byBucket = toldByBucket(f);
        return byBucket + toldBySteps(f);
    }

    private void leaveInTrace(int body) {
        traced = 31 * traced + body;
    }

    /** Each call that names faults ends here, so that fault() tells of the latest one. */
    private int ended(int answer) {
        latestFault = answer <= NULL && answer >= SIZE ? NO_FAULT - answer : 0;
        return answer;
    }

    private static boolean isUpTo(int number, int most) {
        return number >= 0 && number <= most;
    }

    /** Rows of 41 numbers, of ticks 0 .. 40; each row handed in is one. */
    private static final class Rows {
        static void fillSteps(int[] more, int n, int[] into) {
            into[0] = 0;
            for (int t = 1; t <= LAST_TICK; t++) {
                into[t] = Math.min(into[t - 1] + more[Math.min(t, n) - 1], MOST);
            }
        }

        static void fillBucket(int b, int r, int[] into) {
            into[0] = 0;
            for (int t = 1; t <= LAST_TICK; t++) {
                into[t] = Math.min(b + r * t, MOST);
            }
        }

        static void fillLate(int l, int r, int[] into) {
            for (int t = 0; t <= LAST_TICK; t++) {
                into[t] = t <= l ? 0 : r * (t - l);
            }
        }

        static void fillSame(int[] f, int[] into) {
            System.arraycopy(f, 0, into, 0, TICKS);
        }

        static void fillMade(int what, int[] f, int[] g, int[] into) {
            switch (what) {
                case 0:
                    fillLeast(f, g, into);
                    break;
                case 1:
                    fillSum(f, g, into);
                    break;
                case 2:
                    fillAlong(f, g, into);
                    break;
                case 3:
                    fillOut(f, g, into);
                    break;
                default:
                    fillLeft(f, g, into);
                    break;
            }
        }

        static void fillLeast(int[] f, int[] g, int[] into) {
            for (int t = 0; t <= LAST_TICK; t++) {
                into[t] = Math.min(f[t], g[t]);
            }
        }

        static void fillSum(int[] f, int[] g, int[] into) {
            for (int t = 0; t <= LAST_TICK; t++) {
                into[t] = Math.min(f[t] + g[t], MOST);
            }
        }

        static void fillAlong(int[] f, int[] g, int[] into) {
            for (int t = 0; t <= LAST_TICK; t++) {
                int least = MOST;
                for (int s = 0; s <= t; s++) {
                    least = Math.min(least, f[s] + g[t - s]);
                }
                into[t] = least;
            }
        }

        static void fillOut(int[] f, int[] g, int[] into) {
            into[0] = 0;
            for (int t = 1; t <= LAST_TICK; t++) {
                int greatest = into[t - 1];
                for (int u = 0; u <= LAST_TICK - t; u++) {
                    greatest = Math.max(greatest, f[t + u] - g[u]);
                }
                into[t] = greatest;
            }
        }

        static void fillLeft(int[] f, int[] g, int[] into) {
            int greatest = 0;
            for (int t = 0; t <= LAST_TICK; t++) {
                greatest = Math.max(greatest, f[t] - g[t]);
                into[t] = greatest;
            }
        }

        static void fillHeldBack(int[] f, int d, int[] into) {
            for (int t = 0; t <= LAST_TICK; t++) {
                into[t] = t < d ? 0 : f[t - d];
            }
        }

        static void fillAhead(int[] f, int d, int[] into) {
            into[0] = 0;
            for (int t = 1; t <= LAST_TICK; t++) {
                into[t] = f[Math.min(t + d, LAST_TICK)];
            }
        }

        /** The longest wait of what comes till the last tick; none, if it is not served till 40. */
        static int longestWait(int[] f, int[] g, int last) {
            int longest = 0;
            // f never falls, so what comes later is never served at an earlier tick
            int served = 0;
            for (int t = 0; t <= last; t++) {
                served = Math.max(served, t);
                while (served <= LAST_TICK && g[served] < f[t]) {
                    served++;
                }
                if (served > LAST_TICK) {
                    return NONE;
                }
                longest = Math.max(longest, served - t);
            }
            return longest;
        }

        static int greatestHeap(int[] f, int[] g) {
            int greatest = 0;
            for (int t = 0; t <= LAST_TICK; t++) {
                greatest = Math.max(greatest, f[t] - g[t]);
            }
            return greatest;
        }
    }

    /** The stairs that there are, with their kinds; none of them ever changes. */
    private static final class Stairs {
        private final int[][] rows = new int[MOST_STAIRS][TICKS];
        private final int[] kinds = new int[MOST_STAIRS];
        private int count = 0;

        boolean has(int f) {
            return f >= 0 && f < count;
        }

        boolean isFull() {
            return count >= MOST_STAIRS;
        }

        /** Of a stair that there is. */
        int[] row(int f) {
            return rows[f];
        }

        /** To be filled, if it is not full, and then to be kept. */
        int[] nextRow() {
            return rows[count];
        }

        int keepNext(int kind) {
            kinds[count] = kind;
            count++;
            return count - 1;
        }
    }

    /** Reads a text code by code, and makes the row of its stair on the way. */
    private static final class TextReader {
        private static final int SOUND = -1;
        private static final int MOST_ITEMS = 6, MOST_DIGITS = 4;
        private static final int NO_SIGN = 0;

        private final int[] codes = new int[MOST_CELLS];
        private final int[] item = new int[TICKS];
        private final int[] whole = new int[TICKS];
        private int kind = STEPS;
        private int count = 0;
        private int place = 0;
        private int sign = NO_SIGN;
        private int wrong = SOUND;

        /** The place of the first fault of n codes, n 60 at most; sound, if there is none. */
        int read(int[] from, int n) {
            System.arraycopy(from, 0, codes, 0, n);
            count = n;
            place = 0;
            sign = NO_SIGN;
            wrong = SOUND;
            readItem();
            Rows.fillSame(item, whole);
            for (int items = 1; items < MOST_ITEMS && goesOn(); items++) {
                readSign();
                readItem();
                joinItem();
            }
            if (goesOn()) {
                wrong = place;
            }
            return wrong;
        }

        private boolean goesOn() {
            return wrong == SOUND && place < count;
        }

        private void readSign() {
            int code = codeHere();
            boolean isSign = code == '&' || code == '+';
            if (isSign && (sign == NO_SIGN || sign == code)) {
                sign = code;
                place++;
            } else {
                wrong = place;
            }
        }

        private void readItem() {
            if (wrong != SOUND) {
                return;
            }
            int letter = codeHere();
            if (letter == 'b') {
                place++;
                int burst = readNumber(MOST_BURST);
                Rows.fillBucket(burst, readPace(), item);
                kind = BUCKET;
            } else if (letter == 'l') {
                place++;
                int lateness = readNumber(LAST_TICK);
                Rows.fillLate(lateness, readPace(), item);
                kind = LATE;
            } else {
                Rows.fillLate(0, readPace(), item);
                kind = STEPS;
            }
        }

        private void joinItem() {
            if (wrong != SOUND) {
                return;
            }
            if (sign == '&') {
                Rows.fillLeast(whole, item, whole);
            } else {
                Rows.fillSum(whole, item, whole);
            }
            kind = STEPS;
        }

        private int readPace() {
            if (wrong != SOUND) {
                return 0;
            }
            if (codeHere() != 'r') {
                wrong = place;
                return 0;
            }
            place++;
            return readNumber(MOST_PACE);
        }

        private int readNumber(int most) {
            int first = place;
            int number = 0;
            for (int digits = 0; digits < MOST_DIGITS && isDigit(codeHere()); digits++) {
                number = 10 * number + codeHere() - '0';
                place++;
            }
            if (place == first || number > most) {
                wrong = first;
            }
            return number;
        }

        /** 0 behind the last one: with that no text goes on, as with the end. */
        private int codeHere() {
            return place < count ? codes[place] : 0;
        }

        private static boolean isDigit(int code) {
            return code >= '0' && code <= '9';
        }
    }

    /** Nodes, flows on their ways, and what is worked out of them when it is asked for. */
    private static final class Network {
        private static final int ROWS_OF_WAY = LONGEST_WAY + 1;

        private final int[] servedBy = new int[NODES];
        private final int[][] served = new int[NODES][TICKS];
        private final int[] flowStairs = new int[MOST_FLOWS];
        private final int[] lengths = new int[MOST_FLOWS];
        private final int[][] ways = new int[MOST_FLOWS][LONGEST_WAY];
        private int flows = 0;
        private int ruleNow = RANKS;

        // what goes on from a node of a way is what comes at the next one, so one row is both
        private final int[][] comes = new int[MOST_FLOWS * ROWS_OF_WAY][TICKS];
        private final int[][] has = new int[MOST_FLOWS * LONGEST_WAY][TICKS];
        private final int[] waits = new int[MOST_FLOWS * LONGEST_WAY];
        private final int[] ahead = new int[NODES];
        private final int[] order = new int[NODES];
        private final int[] sum = new int[TICKS];
        private final int[] along = new int[TICKS];
        private boolean isFresh = false;
        private boolean bounded = false;

        Network() {
            Arrays.fill(servedBy, NONE);
        }

        void serveNothing(int v) {
            servedBy[v] = NONE;
            isFresh = false;
        }

        void serveBy(int v, int f, int[] row) {
            servedBy[v] = f;
            Rows.fillSame(row, served[v]);
            isFresh = false;
        }

        void ruleBy(int v) {
            ruleNow = v;
            isFresh = false;
        }

        boolean isFull() {
            return flows >= MOST_FLOWS;
        }

        /** A new flow, if it is not full: its way are the first n of the nodes, 1 to 4 unlike ones. */
        int addFlow(int f, int[] row, int[] nodes, int n) {
            int w = flows;
            flowStairs[w] = f;
            lengths[w] = n;
            System.arraycopy(nodes, 0, ways[w], 0, n);
            Rows.fillSame(row, comesAt(w, 0));
            flows++;
            isFresh = false;
            return w;
        }

        boolean hasFlow(int w) {
            return w >= 0 && w < flows;
        }

        boolean hasPlace(int w, int k) {
            return hasFlow(w) && k >= 0 && k < lengths[w];
        }

        int servingNodes() {
            int serving = 0;
            for (int v = 0; v < NODES; v++) {
                if (servedBy[v] != NONE) {
                    serving++;
                }
            }
            return serving;
        }

        boolean hasRing() {
            return orderNodes() < NODES;
        }

        /** Puts nodes in order, each behind all that are ahead of it; how many could be put so. */
        private int orderNodes() {
            noteAhead();
            int placed = 0;
            int count = 0;
            // a round places at least one node, or what is left comes round
            for (int round = 0; round < NODES; round++) {
                for (int v = 0; v < NODES; v++) {
                    boolean isPlaced = (placed >> v & 1) == 1;
                    if (!isPlaced && (ahead[v] & ~placed) == 0) {
                        order[count] = v;
                        count++;
                        placed |= 1 << v;
                    }
                }
            }
            return count;
        }

        /** Of each node the bits of the nodes ahead of it. */
        private void noteAhead() {
            Arrays.fill(ahead, 0);
            for (int w = 0; w < flows; w++) {
                for (int k = 1; k < lengths[w]; k++) {
                    ahead[ways[w][k]] |= 1 << ways[w][k - 1];
                }
            }
        }

        /** Whether there are bounds: no ring, a stair at each node of a way, each wait ends. */
        boolean isBounded() {
            if (!isFresh) {
                bounded = orderNodes() == NODES && isServedOnWays() && workOut();
                isFresh = true;
            }
            return bounded;
        }

        private boolean isServedOnWays() {
            for (int w = 0; w < flows; w++) {
                for (int k = 0; k < lengths[w]; k++) {
                    if (servedBy[ways[w][k]] == NONE) {
                        return false;
                    }
                }
            }
            return true;
        }

        /** Goes through the nodes as they were put in order; whether each wait ends. */
        private boolean workOut() {
            for (int p = 0; p < NODES; p++) {
                for (int w = 0; w < flows; w++) {
                    int k = placeOn(w, order[p]);
                    if (k >= 0 && !workOutAt(w, k)) {
                        return false;
                    }
                }
            }
            return true;
        }

        private boolean workOutAt(int w, int k) {
            int v = ways[w][k];
            int wait;
            if (ruleNow == FIRST_COME) {
                sumComing(v, flows, NONE);
                Rows.fillSame(served[v], hasAt(w, k));
                wait = Rows.longestWait(sum, served[v], LAST_WAITING_TICK);
            } else {
                sumComing(v, ruleNow == RANKS ? w : flows, w);
                Rows.fillLeft(served[v], sum, hasAt(w, k));
                wait = Rows.longestWait(comesAt(w, k), hasAt(w, k), LAST_WAITING_TICK);
            }
            if (wait == NONE) {
                return false;
            }
            waits[w * LONGEST_WAY + k] = wait;
            if (ruleNow == FIRST_COME) {
                Rows.fillAhead(comesAt(w, k), wait, goesOnFrom(w, k));
            } else {
                Rows.fillOut(comesAt(w, k), hasAt(w, k), goesOnFrom(w, k));
            }
            return true;
        }

        /** Sums what comes at a node of the flows 0 .. upTo less 1, but for the one left out. */
        private void sumComing(int v, int upTo, int leftOut) {
            Arrays.fill(sum, 0);
            for (int w = 0; w < upTo; w++) {
                int k = placeOn(w, v);
                if (k >= 0 && w != leftOut) {
                    Rows.fillSum(sum, comesAt(w, k), sum);
                }
            }
        }

        /** At which place of its way a flow goes through a node; -1, if it does not. */
        private int placeOn(int w, int v) {
            for (int k = 0; k < lengths[w]; k++) {
                if (ways[w][k] == v) {
                    return k;
                }
            }
            return -1;
        }

        int[] comesAt(int w, int k) {
            return comes[w * ROWS_OF_WAY + k];
        }

        int[] goesOnFrom(int w, int k) {
            return comes[w * ROWS_OF_WAY + k + 1];
        }

        int[] hasAt(int w, int k) {
            return has[w * LONGEST_WAY + k];
        }

        int latestAt(int w, int k) {
            return waits[w * LONGEST_WAY + k];
        }

        int greatestHeapIn(int v) {
            sumComing(v, flows, NONE);
            return Rows.greatestHeap(sum, served[v]);
        }

        int waitByNodes(int w) {
            int all = 0;
            for (int k = 0; k < lengths[w]; k++) {
                all += latestAt(w, k);
            }
            return all;
        }

        int waitAtOnce(int w) {
            Rows.fillSame(hasAt(w, 0), along);
            for (int k = 1; k < lengths[w]; k++) {
                Rows.fillAlong(along, hasAt(w, k), sum);
                Rows.fillSame(sum, along);
            }
            return Rows.longestWait(comesAt(w, 0), along, LAST_WAITING_TICK);
        }
    }

    /** What was seen, told as what came in all till each tick, and what goes on of it. */
    private static final class Seen {
        private final int[] came = new int[TICKS];
        private final int[] shaped = new int[TICKS];
        private int count = 0;

        /** By the first n numbers of a row, n 1 .. 40. */
        void replaceBy(int[] row, int n) {
            count = n;
            came[0] = 0;
            for (int t = 1; t <= LAST_TICK; t++) {
                came[t] = came[t - 1] + (t <= n ? row[t - 1] : 0);
            }
        }

        /** 100 times t and s, where it first breaks a stair; none, if it keeps it. */
        int firstBreak(int[] stair) {
            // nothing comes behind the last one that was seen, so nothing breaks there first
            for (int t = 1; t <= count; t++) {
                for (int s = t - 1; s >= 0; s--) {
                    if (came[t] - came[s] > stair[t - s]) {
                        return 100 * t + s;
                    }
                }
            }
            return NONE;
        }

        int leastBurst(int r) {
            int burst = 0;
            int least = 0;
            for (int t = 1; t <= count; t++) {
                int beyondPace = came[t] - r * t;
                burst = Math.max(burst, beyondPace - least);
                least = Math.min(least, beyondPace);
            }
            return burst;
        }

        void shapeBy(int[] stair) {
            Rows.fillAlong(came, stair, shaped);
        }

        int mostHeld() {
            return Rows.greatestHeap(came, shaped);
        }

        int latestOfShaped() {
            return Rows.longestWait(came, shaped, LAST_TICK);
        }
    }

    /** Sheets with their lanes; their rows are made once and used again. */
    private static final class Sheets {
        private static final int NOTHING = -1;

        private final int[][] cells = new int[SHEETS][MOST_CELLS];
        private final int[] lengths = new int[SHEETS];
        private final int[] lanes = new int[SHEETS];

        Sheets() {
            Arrays.fill(lengths, NOTHING);
        }

        boolean has(int k) {
            return k >= 0 && k < SHEETS;
        }

        private boolean isLane(int lane) {
            return lane >= 0 && lane < LANES;
        }

        int renew(int k, int lane, int n) {
            if (!has(k)) {
                return UNKNOWN;
            }
            if (!isLane(lane) || n > MOST_CELLS) {
                return OUTSIDE;
            }
            if (n < 0) {
                return SIZE;
            }
            Arrays.fill(cells[k], 0);
            lengths[k] = n;
            lanes[k] = lane;
            return 1;
        }

        /** Of a sheet that there is. */
        int drop(int k) {
            int had = lengths[k] == NOTHING ? 0 : 1;
            lengths[k] = NOTHING;
            return had;
        }

        int write(int k, int i, int v) {
            if (!has(k)) {
                return UNKNOWN;
            }
            if (lengths[k] == NOTHING) {
                return NULL;
            }
            if (i < 0 || i >= lengths[k]) {
                return INDEX;
            }
            cells[k][i] = cut(v, lanes[k]);
            return 1;
        }

        private int cut(int v, int lane) {
            if (lane == 0) {
                return (byte) v;
            }
            return lane == 1 ? (short) v : v;
        }

        /** Why a cell can't be read as one of a lane; fine, if it can. */
        int whyUnread(int k, int i, int lane) {
            int answer = whyUntaken(k, lane);
            if (answer != FINE) {
                return answer;
            }
            return i < 0 || i >= lengths[k] ? INDEX : FINE;
        }

        private int whyUntaken(int k, int lane) {
            if (!has(k)) {
                return UNKNOWN;
            }
            if (!isLane(lane)) {
                return OUTSIDE;
            }
            if (lengths[k] == NOTHING) {
                return NULL;
            }
            return lanes[k] == lane ? FINE : CAST;
        }

        /** Brings n cells from i on into a row of 60; fine, or why they can't be taken. */
        int take(int k, int lane, int i, int n, int[] into) {
            int answer = whyUntaken(k, lane);
            if (answer != FINE) {
                return answer;
            }
            if (n < 0) {
                return SIZE;
            }
            if (isBeyond(k, i, n)) {
                return INDEX;
            }
            System.arraycopy(cells[k], i, into, 0, n);
            return FINE;
        }

        int bring(int k, int i, int other, int j, int n) {
            if (!has(k) || !has(other)) {
                return UNKNOWN;
            }
            if (lengths[k] == NOTHING || lengths[other] == NOTHING) {
                return NULL;
            }
            if (lanes[k] != lanes[other]) {
                return CAST;
            }
            if (isBeyond(k, i, n) || isBeyond(other, j, n)) {
                return INDEX;
            }
            System.arraycopy(cells[k], i, cells[other], j, n);
            return n;
        }

        /** Whether n cells from i on are not all there; the difference can't wrap, the sum could. */
        private boolean isBeyond(int k, int i, int n) {
            return i < 0 || n < 0 || i > lengths[k] || n > lengths[k] - i;
        }
    }
}
