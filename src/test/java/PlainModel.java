import java.util.ArrayList;
import java.util.List;
import java.util.regex.Matcher;
import java.util.regex.Pattern;

/**
 * The document once more, as slowly and literally as can be: its sums and greatest ones over all
 * pairs, its texts by a pattern, its rows as real Java rows. Random runs hold the class against it.
 */
final class PlainModel {
    private static final int UNKNOWN = -1, OUTSIDE = -2, STATE = -3, FULL = -4, NONE = -9;

    /** A refusal or fault, thrown as soon as the call's line comes to it. */
    private static final class Stop extends RuntimeException {
        private static final long serialVersionUID = 1L;
        final int answer;

        Stop(int answer) {
            super(null, null, false, false);
            this.answer = answer;
        }
    }

    private interface Row {
        int at(int t);
    }

    private final List<int[]> stairs = new ArrayList<>();
    private final List<Integer> kinds = new ArrayList<>();
    private final List<Integer> flowStair = new ArrayList<>();
    private final List<int[]> flowWay = new ArrayList<>();
    private final Object[] sheets = new Object[4];
    private final int[] node = {NONE, NONE, NONE, NONE, NONE, NONE};
    private int[] seen = new int[0];
    private int rule = 0;
    private int trace = 0;
    private int fault = 0;

    long call(String name, int... a) {
        boolean namesFaults = ",steps,text,flow,see,sheet,put,cell,copy,as,".contains("," + name + ",");
        try {
            long answer = body(name, a);
            if (namesFaults) {
                fault = 0;
            }
            return answer;
        } catch (Stop stop) {
            if (namesFaults) {
                fault = stop.answer <= -11 && stop.answer >= -14 ? -10 - stop.answer : 0;
            }
            return name.equals("cell") ? Long.MIN_VALUE : stop.answer;
        }
    }

    private long body(String name, int[] a) {
        switch (name) {
            case "steps": return steps(a[0], a[1], a[2], a[3]);
            case "bucket": return bucket(a[0], a[1]);
            case "late": return late(a[0], a[1]);
            case "text": return text(a[0], a[1], a[2], a[3]);
            case "at": return at(a[0], a[1]);
            case "make": return make(a[0], a[1], a[2]);
            case "move": return move(a[0], a[1], a[2]);
            case "delay": return wait(stair(a[0]), stair(a[1]));
            case "heap": return heap(stair(a[0]), stair(a[1]));
            case "within": return within(stair(a[0]), stair(a[1]));
            case "serve": return serve(a[0], a[1]);
            case "flow": return flow(a[0], a[1], a[2], a[3], a[4]);
            case "ofFlow": return ofFlow(a[0], a[1]);
            case "rule": return rule(a[0]);
            case "ring": return ring() ? 1 : 0;
            case "latest": return latest(a[0], a[1]);
            case "there": return there(a[0], a[1], a[2], a[3]);
            case "heapAt": return heapAt(a[0]);
            case "bound": return bound(a[0], a[1]);
            case "see": return see(a[0], a[1], a[2], a[3]);
            case "keeps": return keeps(a[0], a[1]);
            case "burst": return burst(a[0]);
            case "shape": return shape(a[0], a[1]);
            case "letIn": return letIn(a[0], a[1], a[2]);
            case "sheet": return sheet(a[0], a[1], a[2]);
            case "lose": return lose(a[0]);
            case "put": return put(a[0], a[1], a[2]);
            case "cell": return cell(a[0], a[1], a[2]);
            case "copy": return copy(a[0], a[1], a[2], a[3], a[4]);
            case "tell": return tell(a[0]);
            case "draw": return draw(a[0]);
            case "as": return as(a[0], a[1]);
            case "trace": return trace;
            case "fault": return fault;
            case "many": return many(a[0]);
            default: throw new IllegalStateException(name);
        }
    }

    // ---- refusals

    private static void refuse(boolean isSo, int answer) {
        if (isSo) {
            throw new Stop(answer);
        }
    }

    private static boolean not(int v, int from, int to) {
        return v < from || v > to;
    }

    private int[] stair(int f) {
        refuse(not(f, 0, stairs.size() - 1), UNKNOWN);
        return stairs.get(f);
    }

    private int keep(int kind, Row row) {
        refuse(stairs.size() == 24, FULL);
        int[] r = new int[41];
        for (int t = 0; t <= 40; t++) {
            r[t] = Math.min(99999, row.at(t));
        }
        stairs.add(r);
        kinds.add(kind);
        return stairs.size() - 1;
    }

    private static int lengthOf(Object row) {
        return java.lang.reflect.Array.getLength(row);
    }

    private static int laneOf(Object row) {
        return row instanceof byte[] ? 0 : row instanceof short[] ? 1 : 2;
    }

    private static int get(Object row, int i) {
        return java.lang.reflect.Array.getInt(row, i);
    }

    private int[] cells(int sheet, int lane, int i, int n) {
        refuse(not(sheet, 0, 3), UNKNOWN);
        refuse(not(lane, 0, 2), OUTSIDE);
        Object row = sheets[sheet];
        refuse(row != null && laneOf(row) != lane, -12);
        refuse(row == null, -11);
        refuse(n < 0, -14);
        refuse(not(i, 0, lengthOf(row)), -13);
        refuse((long) i + n > lengthOf(row), -13);
        int[] taken = new int[n];
        for (int j = 0; j < n; j++) {
            taken[j] = get(row, i + j);
        }
        return taken;
    }

    private static void numbers(int[] row) {
        refuse(not(row.length, 1, 40), OUTSIDE);
        for (int v : row) {
            refuse(not(v, 0, 999), OUTSIDE);
        }
    }

    // ---- 1

    private int steps(int sheet, int lane, int i, int n) {
        int[] row = cells(sheet, lane, i, n);
        numbers(row);
        return keep(0, t -> {
            int all = 0;
            for (int u = 1; u <= t; u++) {
                all += u <= n ? row[u - 1] : row[n - 1];
            }
            return all;
        });
    }

    private int bucket(int b, int r) {
        refuse(not(b, 0, 9999) || not(r, 0, 999), OUTSIDE);
        return keep(1, t -> t == 0 ? 0 : b + r * t);
    }

    private int late(int l, int r) {
        refuse(not(l, 0, 40) || not(r, 0, 999), OUTSIDE);
        return keep(2, t -> t < l ? 0 : r * (t - l));
    }

    private static final String ITEM = "(?:[bl]\\d{1,4}r\\d{1,4}|r\\d{1,4})";
    private static final Pattern TEXT =
            Pattern.compile(ITEM + "(?:(?:&" + ITEM + "){0,5}|(?:\\+" + ITEM + "){0,5})");
    private static final Pattern NUMBER = Pattern.compile("([blr])(\\d{1,4})");

    /** The place of the first fault; -1 of a text. */
    static int firstFault(String codes) {
        int sound = 0;
        while (sound < codes.length() && goesOn(codes.substring(0, sound + 1))) {
            sound++;
        }
        Matcher number = NUMBER.matcher(codes.substring(0, sound));
        while (number.find()) {
            int most = number.group(1).equals("b") ? 9999 : number.group(1).equals("l") ? 40 : 999;
            if (Integer.parseInt(number.group(2)) > most) {
                return number.start(2);
            }
        }
        return sound == codes.length() && TEXT.matcher(codes).matches() ? -1 : sound;
    }

    private static boolean goesOn(String beginning) {
        Matcher m = TEXT.matcher(beginning);
        return m.matches() || m.hitEnd();
    }

    private int text(int sheet, int lane, int i, int n) {
        StringBuilder codes = new StringBuilder();
        for (int code : cells(sheet, lane, i, n)) {
            codes.append(code >= 0 && code < 128 ? (char) code : '?');
        }
        int wrong = firstFault(codes.toString());
        refuse(wrong >= 0, -100 - wrong);
        String[] items = codes.toString().split("[&+]");
        boolean isSum = codes.indexOf("+") >= 0;
        if (items.length == 1) {
            int kind = items[0].charAt(0) == 'b' ? 1 : items[0].charAt(0) == 'l' ? 2 : 0;
            return keep(kind, t -> ofItem(items[0], t));
        }
        return keep(0, t -> {
            int all = ofItem(items[0], t);
            for (int j = 1; j < items.length; j++) {
                all = isSum ? all + ofItem(items[j], t) : Math.min(all, ofItem(items[j], t));
            }
            return all;
        });
    }

    private static int ofItem(String item, int t) {
        int r = Integer.parseInt(item.substring(item.indexOf('r') + 1));
        if (item.charAt(0) == 'r') {
            return r * t;
        }
        int first = Integer.parseInt(item.substring(1, item.indexOf('r')));
        if (item.charAt(0) == 'b') {
            return t == 0 ? 0 : first + r * t;
        }
        return t < first ? 0 : r * (t - first);
    }

    private int at(int f, int t) {
        int[] row = stair(f);
        refuse(not(t, 0, 40), OUTSIDE);
        return row[t];
    }

    // ---- 2

    private static int[] rowOf(Row row) {
        int[] r = new int[41];
        for (int t = 0; t <= 40; t++) {
            r[t] = Math.min(99999, row.at(t));
        }
        return r;
    }

    private static int[] made(int what, int[] f, int[] g) {
        switch (what) {
            case 0: return rowOf(t -> Math.min(f[t], g[t]));
            case 1: return rowOf(t -> f[t] + g[t]);
            case 2: return rowOf(t -> {
                int least = Integer.MAX_VALUE;
                for (int s = 0; s <= t; s++) {
                    least = Math.min(least, f[s] + g[t - s]);
                }
                return least;
            });
            case 3: return rowOf(t -> {
                int greatest = 0;
                for (int tick = 1; tick <= t; tick++) {
                    for (int u = 0; u + tick <= 40; u++) {
                        greatest = Math.max(greatest, f[tick + u] - g[u]);
                    }
                }
                return greatest;
            });
            default: return rowOf(t -> {
                int greatest = 0;
                for (int s = 0; s <= t; s++) {
                    greatest = Math.max(greatest, f[s] - g[s]);
                }
                return greatest;
            });
        }
    }

    private int make(int what, int f, int g) {
        int[] a = stair(f);
        int[] b = stair(g);
        refuse(not(what, 0, 4), OUTSIDE);
        int[] row = made(what, a, b);
        return keep(0, t -> row[t]);
    }

    private static int[] ahead(int[] f, int d) {
        return rowOf(t -> t == 0 ? 0 : t + d > 40 ? f[40] : f[t + d]);
    }

    private int move(int what, int f, int d) {
        int[] a = stair(f);
        refuse(not(what, 0, 1) || not(d, 0, 40), OUTSIDE);
        int[] row = what == 0 ? rowOf(t -> t < d ? 0 : a[t - d]) : ahead(a, d);
        return keep(0, t -> row[t]);
    }

    private static int wait(int[] f, int[] g) {
        int greatest = 0;
        for (int t = 0; t <= 20; t++) {
            int least = NONE;
            for (int d = 40 - t; d >= 0; d--) {
                if (g[t + d] >= f[t]) {
                    least = d;
                }
            }
            if (least == NONE) {
                return NONE;
            }
            greatest = Math.max(greatest, least);
        }
        return greatest;
    }

    private static int heap(int[] f, int[] g) {
        int greatest = 0;
        for (int t = 0; t <= 40; t++) {
            greatest = Math.max(greatest, f[t] - g[t]);
        }
        return greatest;
    }

    private static int within(int[] f, int[] g) {
        for (int t = 0; t <= 40; t++) {
            if (f[t] > g[t]) {
                return 0;
            }
        }
        return 1;
    }

    // ---- 3

    private int serve(int v, int f) {
        refuse(not(v, 0, 5), UNKNOWN);
        if (f != NONE) {
            stair(f);
        }
        int before = node[v];
        node[v] = f;
        return before;
    }

    private int flow(int f, int sheet, int lane, int i, int n) {
        stair(f);
        int[] way = cells(sheet, lane, i, n);
        refuse(not(n, 1, 4), OUTSIDE);
        for (int v : way) {
            refuse(not(v, 0, 5), UNKNOWN);
        }
        refuse(java.util.Arrays.stream(way).distinct().count() < n, STATE);
        refuse(flowWay.size() == 5, FULL);
        flowStair.add(f);
        flowWay.add(way);
        return flowWay.size() - 1;
    }

    private int[] way(int w) {
        refuse(not(w, 0, flowWay.size() - 1), UNKNOWN);
        return flowWay.get(w);
    }

    private void place(int w, int k) {
        refuse(not(k, 0, way(w).length - 1), UNKNOWN);
    }

    private int ofFlow(int w, int what) {
        int[] way = way(w);
        if (what == 0) {
            return flowStair.get(w);
        }
        if (what == 1) {
            return way.length;
        }
        refuse(not(what, 10, 10 + way.length - 1), OUTSIDE);
        return way[what - 10];
    }

    private int rule(int v) {
        refuse(not(v, 0, 2), OUTSIDE);
        int before = rule;
        rule = v;
        return before;
    }

    private boolean ring() {
        boolean[][] reach = new boolean[6][6];
        for (int[] way : flowWay) {
            for (int k = 0; k + 1 < way.length; k++) {
                reach[way[k]][way[k + 1]] = true;
            }
        }
        for (int m = 0; m < 6; m++) {
            for (int a = 0; a < 6; a++) {
                for (int b = 0; b < 6; b++) {
                    reach[a][b] |= reach[a][m] && reach[m][b];
                }
            }
        }
        for (int v = 0; v < 6; v++) {
            if (reach[v][v]) {
                return true;
            }
        }
        return false;
    }

    private int placeOf(int w, int v) {
        int[] way = flowWay.get(w);
        for (int k = 0; k < way.length; k++) {
            if (way[k] == v) {
                return k;
            }
        }
        return -1;
    }

    // without a ring these calls of one another end

    private int[] comes(int w, int k) {
        return k == 0 ? stairs.get(flowStair.get(w)) : goesOn(w, k - 1);
    }

    private int[] sumComing(int v, int from, int to, int leftOut) {
        int[] sum = new int[41];
        for (int w = from; w < to; w++) {
            int k = placeOf(w, v);
            if (k >= 0 && w != leftOut) {
                sum = made(1, sum, comes(w, k));
            }
        }
        return sum;
    }

    private int[] has(int w, int k) {
        int v = flowWay.get(w)[k];
        int[] served = stairs.get(node[v]);
        if (rule == 2) {
            return served;
        }
        int[] others = rule == 0 ? sumComing(v, 0, w, NONE) : sumComing(v, 0, flowWay.size(), w);
        return made(4, served, others);
    }

    private int waitAt(int w, int k) {
        int v = flowWay.get(w)[k];
        int wait = rule == 2
                ? wait(sumComing(v, 0, flowWay.size(), NONE), stairs.get(node[v]))
                : wait(comes(w, k), has(w, k));
        refuse(wait == NONE, STATE);
        return wait;
    }

    private int[] goesOn(int w, int k) {
        return rule == 2 ? ahead(comes(w, k), waitAt(w, k)) : made(3, comes(w, k), has(w, k));
    }

    private void state() {
        refuse(ring(), STATE);
        for (int[] way : flowWay) {
            for (int v : way) {
                refuse(node[v] == NONE, STATE);
            }
        }
        for (int w = 0; w < flowWay.size(); w++) {
            for (int k = 0; k < flowWay.get(w).length; k++) {
                waitAt(w, k);
            }
        }
    }

    private int latest(int w, int k) {
        place(w, k);
        state();
        return waitAt(w, k);
    }

    private int there(int w, int k, int what, int t) {
        place(w, k);
        refuse(not(what, 0, 2) || not(t, 0, 40), OUTSIDE);
        state();
        return (what == 0 ? comes(w, k) : what == 1 ? has(w, k) : goesOn(w, k))[t];
    }

    private int heapAt(int v) {
        refuse(not(v, 0, 5), UNKNOWN);
        refuse(node[v] == NONE, STATE);
        state();
        return heap(sumComing(v, 0, flowWay.size(), NONE), stairs.get(node[v]));
    }

    private int bound(int w, int what) {
        int[] way = way(w);
        refuse(not(what, 0, 1), OUTSIDE);
        state();
        if (what == 0) {
            int all = 0;
            for (int k = 0; k < way.length; k++) {
                all += waitAt(w, k);
            }
            return all;
        }
        refuse(rule == 2, STATE);
        int[] along = has(w, 0);
        for (int k = 1; k < way.length; k++) {
            along = made(2, along, has(w, k));
        }
        return wait(stairs.get(flowStair.get(w)), along);
    }

    // ---- 4

    private int see(int sheet, int lane, int i, int n) {
        int[] row = cells(sheet, lane, i, n);
        numbers(row);
        seen = row;
        return n;
    }

    private int came(int from, int to) {
        int all = 0;
        for (int t = from + 1; t <= to && t <= seen.length; t++) {
            all += seen[t - 1];
        }
        return all;
    }

    private int breaks(Row stair) {
        for (int t = 1; t <= 40; t++) {
            for (int s = t - 1; s >= 0; s--) {
                if (came(s, t) > stair.at(t - s)) {
                    return 100 * t + s;
                }
            }
        }
        return NONE;
    }

    private int keeps(int f, int what) {
        int[] row = stair(f);
        refuse(not(what, 0, 1), OUTSIDE);
        refuse(seen.length == 0, STATE);
        int breaks = breaks(t -> row[t]);
        return what == 1 ? breaks : breaks == NONE ? 1 : 0;
    }

    private int burst(int r) {
        refuse(not(r, 0, 999), OUTSIDE);
        refuse(seen.length == 0, STATE);
        int least = 0;
        int most = 50000;
        while (least < most) {
            int b = (least + most) / 2;
            if (breaks(t -> t == 0 ? 0 : b + r * t) == NONE) {
                most = b;
            } else {
                least = b + 1;
            }
        }
        return least;
    }

    private int wentOn(int[] stair, int t) {
        int least = Integer.MAX_VALUE;
        for (int s = 0; s <= t; s++) {
            least = Math.min(least, came(0, s) + stair[t - s]);
        }
        return least;
    }

    private int shape(int f, int what) {
        int[] row = stair(f);
        refuse(not(what, 0, 1) && not(what, 100, 140), OUTSIDE);
        refuse(seen.length == 0, STATE);
        if (what >= 100) {
            return wentOn(row, what - 100);
        }
        int held = 0;
        int late = 0;
        for (int t = 0; t <= 40; t++) {
            held = Math.max(held, came(0, t) - wentOn(row, t));
            int d = 0;
            while (t + d <= 40 && wentOn(row, t + d) < came(0, t)) {
                d++;
            }
            late = late == NONE || t + d > 40 ? NONE : Math.max(late, d);
        }
        return what == 0 ? held : late;
    }

    private int letIn(int f, int g, int d) {
        int[] a = stair(f);
        int[] b = stair(g);
        refuse(not(d, 0, 40), OUTSIDE);
        int n = 0;
        while (n < 99) {
            int more = n + 1;
            int wait = wait(rowOf(t -> more * a[t]), b);
            if (wait == NONE || wait > d) {
                break;
            }
            n = more;
        }
        return n;
    }

    // ---- 5

    private int sheet(int k, int lane, int n) {
        refuse(not(k, 0, 3), UNKNOWN);
        refuse(not(lane, 0, 2) || n > 60, OUTSIDE);
        refuse(n < 0, -14);
        sheets[k] = lane == 0 ? new byte[n] : lane == 1 ? new short[n] : new int[n];
        return 1;
    }

    private int lose(int k) {
        refuse(not(k, 0, 3), UNKNOWN);
        int had = sheets[k] == null ? 0 : 1;
        sheets[k] = null;
        return had;
    }

    private int put(int k, int i, int v) {
        refuse(not(k, 0, 3), UNKNOWN);
        Object row = sheets[k];
        refuse(row == null, -11);
        refuse(not(i, 0, lengthOf(row) - 1), -13);
        if (row instanceof byte[]) {
            ((byte[]) row)[i] = (byte) v;
        } else if (row instanceof short[]) {
            ((short[]) row)[i] = (short) v;
        } else {
            ((int[]) row)[i] = v;
        }
        return 1;
    }

    private int cell(int k, int i, int lane) {
        refuse(not(k, 0, 3), UNKNOWN);
        refuse(not(lane, 0, 2), OUTSIDE);
        Object row = sheets[k];
        refuse(row != null && laneOf(row) != lane, -12);
        refuse(row == null, -11);
        refuse(not(i, 0, lengthOf(row) - 1), -13);
        return get(row, i);
    }

    private int copy(int k, int i, int other, int j, int n) {
        refuse(not(k, 0, 3) || not(other, 0, 3), UNKNOWN);
        refuse(sheets[k] == null, -11);
        refuse(sheets[other] == null, -11);
        refuse(laneOf(sheets[k]) != laneOf(sheets[other]), -12);
        refuse(i < 0 || j < 0 || n < 0, -13);
        refuse((long) i + n > lengthOf(sheets[k]) || (long) j + n > lengthOf(sheets[other]), -13);
        int[] asTheyWere = new int[n];
        for (int c = 0; c < n; c++) {
            asTheyWere[c] = get(sheets[k], i + c);
        }
        for (int c = 0; c < n; c++) {
            put(other, j + c, asTheyWere[c]);
        }
        return n;
    }

    private void leave(int body) {
        trace = 31 * trace + body;
    }

    private int tell(int f) {
        int at10 = stair(f)[10];
        if (kinds.get(f) == 2) {
            leave(3);
            leave(2);
            leave(1);
            leave(1);
            return at10 + 100000 + at10;
        }
        if (kinds.get(f) == 1) {
            leave(2);
            leave(1);
            return at10 + 100000;
        }
        leave(1);
        return at10;
    }

    private int draw(int f) {
        stair(f);
        boolean isLate = kinds.get(f) == 2;
        leave(isLate ? 5 : 4);
        return isLate ? 60 : f;
    }

    private int as(int f, int kind) {
        stair(f);
        refuse(not(kind, 0, 2), OUTSIDE);
        refuse(kinds.get(f) < kind, -12);
        return 1;
    }

    private int many(int what) {
        refuse(not(what, 0, 3), OUTSIDE);
        if (what == 3) {
            return (int) java.util.Arrays.stream(node).filter(f -> f != NONE).count();
        }
        return what == 0 ? stairs.size() : what == 1 ? flowWay.size() : seen.length;
    }
}
