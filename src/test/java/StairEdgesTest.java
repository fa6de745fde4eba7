/** The boundary cases of promises 1 to 4 and 6 to 11, sentence by sentence; of 5 see TextEdgesTest. */
public final class StairEdgesTest {
    private static final int UNKNOWN = -1, OUTSIDE = -2, STATE = -3, FULL = -4, NONE = -9;
    private static final int CAST = -12;

    private static final Check CHECK = new Check("StairEdgesTest");

    public static void main(String[] args) {
        nothingAtFirst();
        objectsApart();
        lengthsOfSteps();
        numbersOfSteps();
        behindTheLast();
        partsOfSheets();
        edgesOfBuckets();
        edgesOfLateOnes();
        twentyFourEver();
        refusedOnesTakeNoNumber();
        edgesOfTicks();
        mostIs99999();
        allAreStairs();
        endsOfAlong();
        endsOfOut();
        endsOfLeft();
        heldBack();
        ahead();
        ticksThatWait();
        ticksThatServe();
        justServed();
        endsOfHeap();
        endsOfWithin();
        the512thCall();
        CHECK.end();
    }

    private static void due(String what, long got, long want) {
        CHECK.due(what, got, want);
    }

    // ---- promise 1

    /** "No STAIRS, FLOWS, SHEETS." */
    private static void nothingAtFirst() {
        BurstBounds x = new BurstBounds();
        due("fault at first", x.fault(), 0);
        due("trace at first", x.trace(), 0);
        for (int what = 0; what < 4; what++) {
            due("many at first " + what, x.many(what), 0);
        }
        for (int f = 0; f < 24; f++) {
            due("stair at first " + f, x.at(f, 0), UNKNOWN);
        }
        for (int w = 0; w < 5; w++) {
            due("flow at first " + w, x.ofFlow(w, 1), UNKNOWN);
        }
        for (int k = 0; k < 4; k++) {
            due("sheet at first " + k, x.lose(k), 0);
        }
        for (int v = 0; v < 6; v++) {
            due("heap at first " + v, x.heapAt(v), STATE);
            due("node at first " + v, x.serve(v, NONE), NONE);
        }
        due("ring at first", x.ring(), 0);
        due("rule at first", x.rule(2), 0);
        due("seen at first", x.burst(0), STATE);
    }

    /** What comes to one object does not come to another one. */
    private static void objectsApart() {
        BurstBounds x = new BurstBounds();
        BurstBounds y = new BurstBounds();
        Scene.full(x);
        x.rule(2);
        due("another's stairs", y.many(0), 0);
        due("another's flows", y.many(1), 0);
        due("another's seen", y.many(2), 0);
        due("another's nodes", y.many(3), 0);
        due("another's sheet", y.lose(0), 0);
        due("another's trace", y.trace(), 0);
        due("another's fault", y.fault(), 0);
        due("another's rule", y.rule(0), 0);
        due("its first stair", y.bucket(1, 1), 0);
        due("its first stair at 1", y.at(0, 1), 2);
        due("one's own stair", x.at(0, 1), 8);
    }

    // ---- promise 2

    /** "STEPS by a row of 1 to 40 numbers"; "OUTSIDE: n is not 1 .. 40" */
    private static void lengthsOfSteps() {
        BurstBounds x = new BurstBounds();
        x.sheet(0, 0, 60);
        x.put(0, 0, 7);
        x.put(0, 39, 5);
        x.put(0, 40, 3);
        due("0 numbers", x.steps(0, 0, 0, 0), OUTSIDE);
        due("1 number", x.steps(0, 0, 0, 1), 0);
        due("1 number at 40", x.at(0, 40), 280);
        due("2 numbers", x.steps(0, 0, 0, 2), 1);
        due("2 numbers at 40", x.at(1, 40), 7);
        due("39 numbers", x.steps(0, 0, 0, 39), 2);
        due("39 numbers at 40", x.at(2, 40), 7);
        due("40 numbers", x.steps(0, 0, 0, 40), 3);
        due("40 numbers at 39", x.at(3, 39), 7);
        due("40 numbers at 40", x.at(3, 40), 12);
        due("41 numbers", x.steps(0, 0, 0, 41), OUTSIDE);
        due("60 numbers", x.steps(0, 0, 0, 60), OUTSIDE);
    }

    /** "numbers 0 .. 999"; each place of the row is looked at, none beside it. */
    private static void numbersOfSteps() {
        for (int lane = 1; lane < 3; lane++) {
            for (int place = 0; place < 5; place++) {
                BurstBounds x = new BurstBounds();
                x.sheet(0, lane, 7);
                x.put(0, 0, -1);
                x.put(0, 6, 1000);
                x.put(0, 1 + place, -1);
                due("number -1 at " + place, x.steps(0, lane, 1, 5), OUTSIDE);
                x.put(0, 1 + place, 1000);
                due("number 1000 at " + place, x.steps(0, lane, 1, 5), OUTSIDE);
                x.put(0, 1 + place, 999);
                due("number 999 at " + place, x.steps(0, lane, 1, 5), 0);
                due("999 comes at " + place, x.at(0, place + 1) - x.at(0, place), 999);
                x.put(0, 1 + place, 0);
                due("number 0 at " + place, x.steps(0, lane, 1, 5), 1);
                due("all of 0", x.at(1, 40), 0);
            }
        }
        BurstBounds x = new BurstBounds();
        Desk.row(x, 0, 0, 127, 128);
        due("the greatest byte", x.steps(0, 0, 0, 1), 0);
        due("the greatest byte at 40", x.at(0, 40), 5080);
        due("128 is cut to below 0", x.steps(0, 0, 1, 1), OUTSIDE);
        Desk.row(x, 2, 2, Integer.MIN_VALUE, Integer.MAX_VALUE);
        due("the least int", x.steps(2, 2, 0, 1), OUTSIDE);
        due("the greatest int", x.steps(2, 2, 1, 1), OUTSIDE);
    }

    /** "behind the last one at each TICK as much more as that tells" */
    private static void behindTheLast() {
        for (int n = 1; n <= 40; n++) {
            BurstBounds x = new BurstBounds();
            int[] row = Desk.numbers(n, 1);
            row[n - 1] = 10;
            due("row of " + n, Desk.steps(x, row), 0);
            for (int t = 0; t <= 40; t++) {
                due("row of " + n + " at " + t, x.at(0, t), t < n ? t : n - 1 + 10 * (t - n + 1));
            }
        }
    }

    /** "by n cells of a SHEET from i on": the first ones, the last ones, and all of them. */
    private static void partsOfSheets() {
        BurstBounds x = new BurstBounds();
        Desk.row(x, 3, 1, 1, 2, 3, 4);
        due("the first", x.steps(3, 1, 0, 1), 0);
        due("the last", x.steps(3, 1, 3, 1), 1);
        due("all", x.steps(3, 1, 0, 4), 2);
        due("the last two", x.steps(3, 1, 2, 2), 3);
        due("the first at 2", x.at(0, 2), 2);
        due("the last at 2", x.at(1, 2), 8);
        due("all at 5", x.at(2, 5), 14);
        due("the last two at 2", x.at(3, 2), 7);
        x.sheet(0, 2, 60);
        x.put(0, 59, 9);
        due("the last of 60", x.steps(0, 2, 59, 1), 4);
        due("the last of 60 at 40", x.at(4, 40), 360);
        due("the last 40 of 60", x.steps(0, 2, 20, 40), 5);
        due("the last 40 of 60 at 40", x.at(5, 40), 9);
    }

    // ---- promises 3, 4

    /** "A BUCKET of b (0 .. 9999), r (0 .. 999): b and r times t at TICK t above 0." */
    private static void edgesOfBuckets() {
        int[][] taken = {{0, 0}, {9999, 0}, {0, 999}, {9999, 999}, {1, 0}, {0, 1}};
        for (int[] of : taken) {
            BurstBounds x = new BurstBounds();
            due("bucket", x.bucket(of[0], of[1]), 0);
            due("bucket at 0", x.at(0, 0), 0);
            for (int t = 1; t <= 40; t++) {
                due("bucket at " + t, x.at(0, t), of[0] + of[1] * t);
            }
        }
        int[][] refused = {{-1, 0}, {10000, 0}, {0, -1}, {0, 1000}, {-1, 1000}, {10000, -1}};
        BurstBounds x = new BurstBounds();
        for (int[] of : refused) {
            due("no bucket", x.bucket(of[0], of[1]), OUTSIDE);
        }
        due("no bucket was made", x.many(0), 0);
    }

    /** "A LATE one of l (0 .. 40), r: r times t less l, 0 ahead of l." */
    private static void edgesOfLateOnes() {
        int[][] taken = {{0, 0}, {40, 0}, {0, 999}, {40, 999}, {39, 999}, {1, 1}};
        for (int[] of : taken) {
            BurstBounds x = new BurstBounds();
            due("late", x.late(of[0], of[1]), 0);
            for (int t = 0; t <= 40; t++) {
                due("late at " + t, x.at(0, t), t < of[0] ? 0 : of[1] * (t - of[0]));
            }
        }
        int[][] refused = {{-1, 0}, {41, 0}, {0, -1}, {0, 1000}, {-1, 1000}, {41, -1}};
        BurstBounds x = new BurstBounds();
        for (int[] of : refused) {
            due("no late one", x.late(of[0], of[1]), OUTSIDE);
        }
        due("no late one was made", x.many(0), 0);
    }

    private static int made(BurstBounds x, int way) {
        switch (way) {
            case 0: return Desk.steps(x, 3);
            case 1: return x.bucket(1, 2);
            case 2: return x.late(0, 3);
            case 3: return Desk.text(x, "r3");
            case 4: return x.make(0, 0, 0);
            case 5: return x.make(1, 0, 0);
            case 6: return x.make(2, 0, 0);
            case 7: return x.make(3, 0, 0);
            case 8: return x.make(4, 0, 0);
            case 9: return x.move(0, 0, 1);
            default: return x.move(1, 0, 1);
        }
    }

    /** "24 ever, numbered as they come"; "FULL" */
    private static void twentyFourEver() {
        for (int way = 0; way <= 10; way++) {
            BurstBounds x = new BurstBounds();
            for (int f = 0; f < 23; f++) {
                due("stair " + f, x.bucket(f, 0), f);
            }
            due("way " + way + ": the last one", made(x, way), 23);
            due("way " + way + ": 24 of them", x.many(0), 24);
            int at1 = x.at(23, 1);
            for (int other = 0; other <= 10; other++) {
                due("way " + way + ": full for " + other, made(x, other), FULL);
            }
            due("way " + way + ": still 24", x.many(0), 24);
            due("way " + way + ": the last one stays", x.at(23, 1), at1);
            due("way " + way + ": the first one stays", x.at(0, 1), 0);
            due("way " + way + ": no 25th", x.at(24, 0), UNKNOWN);
        }
    }

    /** "numbered as they come": what is refused leaves no gap. */
    private static void refusedOnesTakeNoNumber() {
        BurstBounds x = new BurstBounds();
        for (int f = 0; f < 24; f++) {
            due("refused", x.bucket(10000, 0), OUTSIDE);
            due("refused late", x.late(41, 0), OUTSIDE);
            due("refused text", Desk.text(x, "r"), -101);
            due("refused steps", Desk.steps(x, 1000), OUTSIDE);
            due("refused make", x.make(5, 0, 0), f == 0 ? UNKNOWN : OUTSIDE);
            due("refused move", x.move(0, 0, 41), f == 0 ? UNKNOWN : OUTSIDE);
            due("taken", x.bucket(f, 0), f);
            due("taken at 1", x.at(f, 1), f);
        }
    }

    // ---- promise 6

    /** "Of a STAIR its number at a TICK": TICKS 0 .. 40, STAIRS 0 on. */
    private static void edgesOfTicks() {
        BurstBounds x = new BurstBounds();
        due("no stair yet", x.at(0, 0), UNKNOWN);
        x.bucket(0, 1);
        for (int t = 0; t <= 40; t++) {
            due("at " + t, x.at(0, t), t);
        }
        due("at -1", x.at(0, -1), OUTSIDE);
        due("at 41", x.at(0, 41), OUTSIDE);
        due("the next stair", x.at(1, 0), UNKNOWN);
        due("a stair below", x.at(-1, 0), UNKNOWN);
        due("no such stair and tick", x.at(1, 41), UNKNOWN);
    }

    // ---- promises 7, 8

    /** "99999 at most (what would be more is 99999)" */
    private static void mostIs99999() {
        BurstBounds x = new BurstBounds();
        int one = x.bucket(9999, 0);
        int two = x.make(1, one, one);
        int four = x.make(1, two, two);
        int eight = x.make(1, four, four);
        int ten = x.make(1, eight, two);
        due("99990", x.at(ten, 1), 99990);
        int[] more = {8, 9, 10, 11, 9999};
        for (int b : more) {
            int sum = x.make(1, ten, x.bucket(b, 0));
            due("99990 and " + b + " at 0", x.at(sum, 0), 0);
            due("99990 and " + b + " at 1", x.at(sum, 1), Math.min(99990 + b, 99999));
            due("99990 and " + b + " at 40", x.at(sum, 40), Math.min(99990 + b, 99999));
        }
        int most = x.make(1, ten, ten);
        due("most and most", x.at(x.make(1, most, most), 40), 99999);
        due("along of most", x.at(x.make(2, most, most), 40), 99999);
        due("out of most", x.at(x.make(3, most, x.late(40, 0)), 1), 99999);
    }

    /** "rows of 41 numbers, of TICKS 0 .. 40, 0 at TICK 0, none less than the one ahead, 99999 at most" */
    private static void allAreStairs() {
        int[][] pairs = {{0, 1}, {1, 0}, {2, 2}, {2, 3}, {3, 2}, {4, 0}, {0, 4}, {4, 4}, {1, 3}};
        for (int[] pair : pairs) {
            BurstBounds x = new BurstBounds();
            x.bucket(5, 3);
            x.late(4, 7);
            x.bucket(9999, 999);
            x.late(40, 0);
            Desk.steps(x, 0, 999, 0, 0, 1);
            for (int what = 0; what < 5; what++) {
                int f = x.make(what, pair[0], pair[1]);
                isStair(x, f, "make " + what);
                due("make " + what + " is steps", x.as(f, 1), CAST);
            }
            for (int what = 0; what < 2; what++) {
                int f = x.move(what, pair[0], 40);
                isStair(x, f, "move " + what);
                due("move " + what + " is steps", x.as(f, 1), CAST);
            }
        }
    }

    private static void isStair(BurstBounds x, int f, String what) {
        due(what + " at 0", x.at(f, 0), 0);
        int before = 0;
        for (int t = 1; t <= 40; t++) {
            int here = x.at(f, t);
            CHECK.holds(what + " at " + t + ": " + here, here >= before && here <= 99999);
            before = here;
        }
    }

    /** "ALONG: the least of f at s and g at t less s, s 0 .. t": s of 0 and of t count. */
    private static void endsOfAlong() {
        BurstBounds x = new BurstBounds();
        int little = x.bucket(3, 0);
        int much = x.bucket(50, 0);
        int none = x.late(40, 0);
        due("s of 0", x.at(x.make(2, much, little), 40), 3);
        due("s of t", x.at(x.make(2, little, much), 40), 3);
        due("s of t at 1", x.at(x.make(2, little, much), 1), 3);
        due("with none", x.at(x.make(2, much, none), 40), 0);
        int late20 = x.late(20, 1);
        int both = x.make(2, late20, late20);
        due("20 and 20 at 40", x.at(both, 40), 0);
        int late19 = x.make(2, late20, x.late(19, 1));
        due("20 and 19 at 39", x.at(late19, 39), 0);
        due("20 and 19 at 40", x.at(late19, 40), 1);
    }

    /** "OUT: 0 at TICK 0; else the greatest of f at (t and u) less g at u, u 0 .. 40 less t" */
    private static void endsOfOut() {
        BurstBounds x = new BurstBounds();
        int none = x.late(40, 0);
        int at40 = Desk.from(x, 40, 7);
        int u39 = x.make(3, at40, none);
        due("f at 40 counts for TICK 1", x.at(u39, 1), 7);
        due("0 at TICK 0", x.at(u39, 0), 0);
        int same = x.make(3, at40, Desk.from(x, 39, 2));
        due("u of 38 counts less 0", x.at(same, 2), 7);
        due("u of 39 counts less 2", x.at(same, 1), 5);
        int u0 = x.make(3, x.bucket(4, 0), x.bucket(9999, 0));
        due("u of 0 at TICK 40", x.at(u0, 40), 4);
        due("u of 0 at TICK 1", x.at(u0, 1), 4);
        int below = x.make(3, none, x.bucket(9999, 999));
        due("never below 0 at 1", x.at(below, 1), 0);
        due("never below 0 at 40", x.at(below, 40), 0);
    }

    /** "LEFT: the greatest of f at s less g at s, s 0 .. t, and 0" */
    private static void endsOfLeft() {
        BurstBounds x = new BurstBounds();
        int none = x.late(40, 0);
        int one = x.bucket(1, 0);
        int at40 = x.make(4, Desk.from(x, 40, 9), one);
        due("s of t at 40", x.at(at40, 40), 8);
        due("not yet at 39", x.at(at40, 39), 0);
        int first = x.make(4, x.bucket(5, 0), Desk.from(x, 2, 9));
        due("left at 1", x.at(first, 1), 5);
        due("it stays left at 40", x.at(first, 40), 5);
        due("and 0", x.at(x.make(4, none, one), 40), 0);
        due("of itself", x.at(x.make(4, one, one), 40), 0);
        due("by none", x.at(x.make(4, one, none), 1), 1);
    }

    /** "HELD BACK by d TICKS (0 .. 40): f at (t less d), 0 ahead of d" */
    private static void heldBack() {
        for (int d : new int[] {0, 1, 20, 39, 40}) {
            BurstBounds x = new BurstBounds();
            x.bucket(5, 3);
            due("held back by " + d, x.move(0, 0, d), 1);
            for (int t = 0; t <= 40; t++) {
                due("held back by " + d + " at " + t, x.at(1, t), t <= d ? 0 : 5 + 3 * (t - d));
            }
        }
        BurstBounds x = new BurstBounds();
        x.bucket(5, 3);
        due("held back by -1", x.move(0, 0, -1), OUTSIDE);
        due("held back by 41", x.move(0, 0, 41), OUTSIDE);
    }

    /** "AHEAD by d: 0 at TICK 0, else f at (t and d), at 40 if that is more" */
    private static void ahead() {
        for (int d : new int[] {0, 1, 20, 39, 40}) {
            BurstBounds x = new BurstBounds();
            x.bucket(5, 3);
            due("ahead by " + d, x.move(1, 0, d), 1);
            due("ahead by " + d + " at 0", x.at(1, 0), 0);
            for (int t = 1; t <= 40; t++) {
                due("ahead by " + d + " at " + t, x.at(1, t), 5 + 3 * Math.min(t + d, 40));
            }
        }
        BurstBounds x = new BurstBounds();
        x.bucket(5, 3);
        due("ahead by -1", x.move(1, 0, -1), OUTSIDE);
        due("ahead by 41", x.move(1, 0, 41), OUTSIDE);
        due("what -1", x.move(-1, 0, 0), OUTSIDE);
        due("what 2", x.move(2, 0, 0), OUTSIDE);
    }

    // ---- promise 9

    /** WAIT: "the greatest, over TICKS t 0 .. 20" */
    private static void ticksThatWait() {
        BurstBounds x = new BurstBounds();
        int none = x.late(40, 0);
        due("what comes at TICK 20 waits", x.delay(Desk.from(x, 20, 1), none), NONE);
        due("what comes at TICK 21 does not", x.delay(Desk.from(x, 21, 1), none), 0);
        due("what comes at TICK 1 waits", x.delay(x.bucket(1, 0), none), NONE);
        due("nothing at TICK 0", x.delay(none, none), 0);
        int at30 = Desk.from(x, 30, 1);
        due("at TICK 20 for 30", x.delay(Desk.from(x, 20, 1), at30), 10);
        due("at TICK 1 for 30", x.delay(x.bucket(1, 0), at30), 29);
        due("the greatest of all", x.delay(Desk.steps(x, 1, 0), Desk.steps(x, 0, 0, 0, 1)), 3);
    }

    /** "the least d (0 on; t and d 40 at most) ..; NONE, if there is a t without one" */
    private static void ticksThatServe() {
        BurstBounds x = new BurstBounds();
        int one = x.bucket(1, 0);
        int at20 = Desk.from(x, 20, 1);
        int at40 = Desk.from(x, 40, 1);
        due("TICK 40 serves TICK 1", x.delay(one, at40), 39);
        due("TICK 40 serves TICK 20", x.delay(at20, at40), 20);
        due("less at TICK 40", x.delay(x.bucket(2, 0), at40), NONE);
        int slow = x.late(0, 1);
        due("the last that is served", x.delay(x.bucket(40, 0), slow), 39);
        due("the first that is not", x.delay(x.bucket(41, 0), slow), NONE);
        due("only the last TICK lacks one", x.delay(x.late(18, 21), slow), NONE);
        due("just the last TICK", x.delay(x.late(18, 20), slow), 20);
    }

    /** "with g at (t and d) no less than f at t": as much is enough, d of 0 too. */
    private static void justServed() {
        BurstBounds x = new BurstBounds();
        int f = x.bucket(5, 3);
        due("as much", x.delay(f, x.bucket(5, 3)), 0);
        due("one less", x.delay(f, x.bucket(4, 3)), 1);
        due("more", x.delay(f, x.bucket(6, 3)), 0);
        due("three less", x.delay(f, x.bucket(2, 3)), 1);
        due("four less", x.delay(f, x.bucket(1, 3)), 2);
    }

    // ---- promises 10, 11

    /** "HEAP: the greatest of f less g, TICKS 0 .. 40, and 0" */
    private static void endsOfHeap() {
        BurstBounds x = new BurstBounds();
        int none = x.late(40, 0);
        int at40 = Desk.from(x, 40, 7);
        due("at TICK 40 alone", x.heap(at40, none), 7);
        due("at TICK 1 alone", x.heap(x.bucket(4, 0), Desk.from(x, 2, 9)), 4);
        due("and 0", x.heap(none, at40), 0);
        due("of itself", x.heap(at40, at40), 0);
        due("one more", x.heap(x.bucket(5, 3), x.bucket(4, 3)), 1);
        due("one less", x.heap(x.bucket(4, 3), x.bucket(5, 3)), 0);
    }

    /** "Whether f is nowhere greater than g: 1, 0." */
    private static void endsOfWithin() {
        BurstBounds x = new BurstBounds();
        int f = x.bucket(5, 3);
        due("itself", x.within(f, f), 1);
        due("as much", x.within(f, x.bucket(5, 3)), 1);
        due("one less", x.within(f, x.bucket(4, 3)), 0);
        due("one more", x.within(f, x.bucket(6, 3)), 1);
        int none = x.late(40, 0);
        due("greater at TICK 40 alone", x.within(Desk.from(x, 40, 1), none), 0);
        due("greater at TICK 1 alone", x.within(x.bucket(1, 0), Desk.from(x, 2, 1)), 0);
        due("nothing in nothing", x.within(none, none), 1);
    }

    /** "An object is used for at most 512 calls after it has been made" */
    private static void the512thCall() {
        BurstBounds x = new BurstBounds();
        x.late(0, 3);
        for (int call = 2; call <= 510; call++) {
            due("call " + call, x.draw(0), 60);
        }
        due("the 511th call", x.bucket(1, 1), 1);
        due("the 512th call", x.at(1, 40), 41);
    }
}
