/** The boundary cases of promises 21 to 25, sentence by sentence. */
public final class SeenEdgesTest {
    private static final int UNKNOWN = -1, OUTSIDE = -2, STATE = -3, NONE = -9;

    private static final Check CHECK = new Check("SeenEdgesTest");

    public static void main(String[] args) {
        lengthsOfSeen();
        numbersOfSeen();
        seenAnew();
        justKept();
        fromEachTick();
        firstBreaks();
        ticksBehindTheLast();
        edgesOfPaces();
        leastBursts();
        burstsAbove9999();
        burstsAreLeast();
        ticksOfShaped();
        goneOnTill40();
        heldAtTheEnds();
        shapedByNothing();
        noneOrAllLetIn();
        edgesOfDelays();
        letInTillTick40();
        letInByTick20();
        letInSumsAreCut();
        CHECK.end();
    }

    private static void due(String what, long got, long want) {
        CHECK.due(what, got, want);
    }

    private static int[] only(int place, int number, int length) {
        int[] row = new int[length];
        row[place] = number;
        return row;
    }

    // ---- promise 21

    /** "SEEN: a row of 1 to 40 numbers"; "OUTSIDE: n is not 1 .. 40" */
    private static void lengthsOfSeen() {
        for (int lane = 0; lane < 3; lane++) {
            BurstBounds x = new BurstBounds();
            x.sheet(0, lane, 60);
            x.put(0, 0, 1);
            x.put(0, 39, 2);
            x.put(0, 40, 4);
            x.put(0, 59, 8);
            due("0 numbers", x.see(0, lane, 0, 0), OUTSIDE);
            due("0 numbers at the end", x.see(0, lane, 60, 0), OUTSIDE);
            due("41 numbers", x.see(0, lane, 0, 41), OUTSIDE);
            due("60 numbers", x.see(0, lane, 0, 60), OUTSIDE);
            due("nothing is seen", x.many(2), 0);
            due("nothing is seen: burst", x.burst(0), STATE);
            due("1 number", x.see(0, lane, 0, 1), 1);
            due("1 number: how many", x.many(2), 1);
            due("1 number: in all", x.burst(0), 1);
            due("39 numbers", x.see(0, lane, 0, 39), 39);
            due("39 numbers: in all", x.burst(0), 1);
            due("40 numbers", x.see(0, lane, 0, 40), 40);
            due("40 numbers: how many", x.many(2), 40);
            due("40 numbers: in all", x.burst(0), 3);
            due("the last 40", x.see(0, lane, 20, 40), 40);
            due("the last 40: in all", x.burst(0), 14);
            due("the last one", x.see(0, lane, 59, 1), 1);
            due("the last one: in all", x.burst(0), 8);
        }
    }

    /** "numbers 0 .. 999"; each place of the row is looked at, none beside it. */
    private static void numbersOfSeen() {
        for (int place = 0; place < 5; place++) {
            BurstBounds x = new BurstBounds();
            Desk.row(x, 0, 1, -1, 0, 0, 0, 0, 0, 1000);
            x.put(0, 1 + place, -1);
            due("number -1 at " + place, x.see(0, 1, 1, 5), OUTSIDE);
            x.put(0, 1 + place, 1000);
            due("number 1000 at " + place, x.see(0, 1, 1, 5), OUTSIDE);
            due("nothing is seen", x.many(2), 0);
            x.put(0, 1 + place, 999);
            due("number 999 at " + place, x.see(0, 1, 1, 5), 5);
            due("999 came at " + place, x.burst(998), 1);
            x.put(0, 1 + place, 0);
            due("number 0 at " + place, x.see(0, 1, 1, 5), 5);
            due("nothing came", x.burst(0), 0);
        }
    }

    /** What is SEEN is what was seen the latest; a row that is refused leaves it. */
    private static void seenAnew() {
        BurstBounds x = new BurstBounds();
        x.bucket(0, 1);
        Desk.see(x, Desk.numbers(40, 999));
        Desk.see(x, 3);
        due("how many", x.many(2), 1);
        due("in all", x.burst(0), 3);
        due("held", x.shape(0, 0), 2);
        due("gone on till 40", x.shape(0, 140), 3);
        due("refused", Desk.see(x, 5, 1000), OUTSIDE);
        due("how many still", x.many(2), 1);
        due("in all still", x.burst(0), 3);
        Desk.see(x, 0, 4);
        due("how many of the next", x.many(2), 2);
        due("in all of the next", x.burst(0), 4);
        Desk.row(x, 3, 2, 9, 9);
        due("the sheet may change", x.burst(0), 4);
        x.lose(3);
        due("the sheet may go", x.many(2), 2);
    }

    // ---- promise 22

    /** "no more came than the STAIR has at t less s": as much keeps it, one more breaks it. */
    private static void justKept() {
        BurstBounds x = new BurstBounds();
        int f = x.bucket(5, 3);
        Desk.see(x, 8);
        due("as much", x.keeps(f, 0), 1);
        due("as much: where", x.keeps(f, 1), NONE);
        Desk.see(x, 9);
        due("one more", x.keeps(f, 0), 0);
        due("one more: where", x.keeps(f, 1), 100);
        Desk.see(x, 0);
        due("nothing", x.keeps(x.late(40, 0), 0), 1);
        Desk.see(x, 1);
        due("one too many", x.keeps(x.late(40, 0), 0), 0);
        due("what -1", x.keeps(f, -1), OUTSIDE);
        due("what 2", x.keeps(f, 2), OUTSIDE);
        due("stair 3", x.keeps(3, 0), UNKNOWN);
    }

    /** "from each TICK s to each t behind it": the longest and the shortest of them, first and last */
    private static void fromEachTick() {
        BurstBounds x = new BurstBounds();
        int all = x.bucket(39, 0);
        Desk.see(x, Desk.numbers(40, 1));
        due("TICK 0 to 40", x.keeps(all, 1), 4000);
        due("TICK 0 to 40 keeps", x.keeps(x.bucket(40, 0), 0), 1);
        int last = x.bucket(0, 1);
        Desk.see(x, only(39, 2, 40));
        due("TICK 39 to 40", x.keeps(last, 1), 4039);
        Desk.see(x, only(0, 2, 40));
        due("TICK 0 to 1", x.keeps(last, 1), 100);
        Desk.see(x, only(38, 2, 40));
        due("TICK 38 to 39", x.keeps(last, 1), 3938);
        Desk.see(x, 1, 0, 1);
        due("from TICK 0 to 3 alone", x.keeps(Desk.steps(x, 1, 0), 1), 300);
    }

    /** "BREAKS: the first t, of these the greatest s" */
    private static void firstBreaks() {
        BurstBounds x = new BurstBounds();
        int none = x.late(40, 0);
        Desk.see(x, 0, 1, 1, 1);
        due("the first t, the greatest s", x.keeps(none, 1), 201);
        Desk.see(x, 1, 1, 1);
        due("TICK 1", x.keeps(none, 1), 100);
        int f = x.bucket(3, 0);
        Desk.see(x, 2, 2, 2, 2);
        due("s of 0 alone", x.keeps(f, 1), 200);
        Desk.see(x, 1, 2, 2, 9);
        due("the first t though another breaks more", x.keeps(f, 1), 301);
        Desk.see(x, 1, 1, 1, 9);
        due("all s: the greatest one", x.keeps(f, 1), 403);
        Desk.see(x, 1, 1, 1, 2);
        due("two s: the greater one", x.keeps(f, 1), 401);
        Desk.see(x, 1, 1, 1, 3);
        due("three s: the greatest one", x.keeps(f, 1), 402);
    }

    /** Nothing came behind the last number that was SEEN, so nothing BREAKS there. */
    private static void ticksBehindTheLast() {
        BurstBounds x = new BurstBounds();
        int f = x.bucket(4, 0);
        Desk.see(x, Desk.numbers(40, 9));
        Desk.see(x, 4);
        due("kept behind the last", x.keeps(f, 0), 1);
        due("no break behind the last", x.keeps(f, 1), NONE);
        due("no burst behind the last", x.burst(0), 4);
    }

    // ---- promise 23

    /** "BURST for r. OUTSIDE; STATE: nothing is SEEN": r 0 .. 999 */
    private static void edgesOfPaces() {
        BurstBounds x = new BurstBounds();
        due("r -1 ahead of state", x.burst(-1), OUTSIDE);
        due("r 1000 ahead of state", x.burst(1000), OUTSIDE);
        due("r 0: nothing is seen", x.burst(0), STATE);
        due("r 999: nothing is seen", x.burst(999), STATE);
        Desk.see(x, 999);
        due("r -1", x.burst(-1), OUTSIDE);
        due("r 0", x.burst(0), 999);
        due("r 998", x.burst(998), 1);
        due("r 999", x.burst(999), 0);
        due("r 1000", x.burst(1000), OUTSIDE);
    }

    /** "the least b .., such that it KEEPS the BUCKET of b, r": 0 at least */
    private static void leastBursts() {
        BurstBounds x = new BurstBounds();
        Desk.see(x, 0);
        due("nothing came", x.burst(0), 0);
        due("nothing came at a pace", x.burst(5), 0);
        Desk.see(x, 3, 3, 3);
        due("its pace", x.burst(3), 0);
        due("a lesser pace", x.burst(2), 3);
        due("a greater pace", x.burst(4), 0);
        Desk.see(x, only(39, 7, 40));
        due("the last TICK alone", x.burst(2), 5);
        Desk.see(x, only(0, 7, 40));
        due("the first TICK alone", x.burst(2), 5);
        Desk.see(x, 7, 0, 7);
        due("over a pause", x.burst(2), 8);
        due("over a pause that is too long", x.burst(7), 0);
    }

    /** "(above 9999, too)" */
    private static void burstsAbove9999() {
        BurstBounds x = new BurstBounds();
        int[] row = Desk.numbers(11, 999);
        row[10] = 9;
        Desk.see(x, row);
        due("9999", x.burst(0), 9999);
        row[10] = 10;
        Desk.see(x, row);
        due("10000", x.burst(0), 10000);
        Desk.see(x, Desk.numbers(40, 999));
        due("the most", x.burst(0), 39960);
        due("the most at a pace", x.burst(1), 39920);
    }

    private static void burstsAreLeast() {
        int[] row = {4, 0, 9, 0, 0, 20, 1, 999, 0, 3};
        for (int r = 0; r < 12; r++) {
            BurstBounds x = new BurstBounds();
            Desk.see(x, row);
            int b = x.burst(r);
            due("kept, r " + r, x.keeps(x.bucket(b, r), 0), 1);
            due("not kept by one less, r " + r, x.keeps(x.bucket(b - 1, r), 0), 0);
        }
    }

    // ---- promise 24

    /** "100 and t: how much went on till TICK t": TICKS 0 .. 40 */
    private static void ticksOfShaped() {
        BurstBounds x = new BurstBounds();
        int f = x.bucket(0, 1);
        Desk.see(x, 30);
        for (int t = 0; t <= 40; t++) {
            due("went on till " + t, x.shape(f, 100 + t), Math.min(t, 30));
        }
        due("what -1", x.shape(f, -1), OUTSIDE);
        due("what 2", x.shape(f, 2), OUTSIDE);
        due("what 99", x.shape(f, 99), OUTSIDE);
        due("what 141", x.shape(f, 141), OUTSIDE);
        due("stair 1", x.shape(1, 141), UNKNOWN);
    }

    /** "LATE: .. (NONE, if that is not so till TICK 40)" */
    private static void goneOnTill40() {
        BurstBounds x = new BurstBounds();
        int f = x.bucket(0, 1);
        Desk.see(x, 40);
        due("gone on at TICK 40", x.shape(f, 1), 39);
        Desk.see(x, 41);
        due("not gone on at TICK 40", x.shape(f, 1), NONE);
        Desk.see(x, only(39, 1, 40));
        due("came at TICK 40, and goes on", x.shape(f, 1), 0);
        Desk.see(x, only(39, 2, 40));
        due("came at TICK 40, and does not", x.shape(f, 1), NONE);
        Desk.see(x, only(38, 2, 40));
        due("came at TICK 39, and goes on till 40", x.shape(f, 1), 1);
        Desk.see(x, only(29, 11, 40));
        due("came at TICK 30, and goes on till 40", x.shape(f, 1), 10);
        Desk.see(x, only(29, 12, 40));
        due("came at TICK 30, and does not", x.shape(f, 1), NONE);
        Desk.see(x, 0, 0);
        due("nothing came", x.shape(f, 1), 0);
        Desk.see(x, 1, 1, 1);
        due("none is late", x.shape(f, 1), 0);
    }

    /** "HELD: the most of what came till a TICK less what went on till then" */
    private static void heldAtTheEnds() {
        BurstBounds x = new BurstBounds();
        int f = x.bucket(0, 1);
        Desk.see(x, 7);
        due("held at TICK 1", x.shape(f, 0), 6);
        Desk.see(x, only(39, 7, 40));
        due("held at TICK 40", x.shape(f, 0), 6);
        Desk.see(x, 1, 1);
        due("none held", x.shape(f, 0), 0);
        Desk.see(x, 2, 0);
        due("one held", x.shape(f, 0), 1);
        Desk.see(x, 0);
        due("nothing came", x.shape(f, 0), 0);
        Desk.see(x, 4, 0, 0, 6);
        due("the most, not the first", x.shape(f, 0), 6);
    }

    /** SHAPED by a STAIR with which nothing ever goes on, or all at once */
    private static void shapedByNothing() {
        BurstBounds x = new BurstBounds();
        int none = x.late(40, 0);
        int all = x.bucket(9999, 999);
        Desk.see(x, 3, 4);
        due("none: went on till 40", x.shape(none, 140), 0);
        due("none: held", x.shape(none, 0), 7);
        due("none: late", x.shape(none, 1), NONE);
        due("all: went on till 1", x.shape(all, 101), 3);
        due("all: went on till 2", x.shape(all, 102), 7);
        due("all: held", x.shape(all, 0), 0);
        due("all: late", x.shape(all, 1), 0);
        Desk.see(x, Desk.numbers(40, 999));
        due("the most: went on till 40", x.shape(all, 140), 39960);
        due("the most: held for ever", x.shape(none, 0), 39960);
    }

    // ---- promise 25

    /** "how many alike STAIRS f (0 .. 99)" */
    private static void noneOrAllLetIn() {
        BurstBounds x = new BurstBounds();
        int one = x.late(0, 1);
        int none = x.late(40, 0);
        due("none", x.letIn(one, none, 40), 0);
        due("one", x.letIn(one, one, 0), 1);
        due("two", x.letIn(one, x.late(0, 2), 0), 2);
        due("98", x.letIn(one, x.late(0, 98), 0), 98);
        due("99", x.letIn(one, x.late(0, 99), 0), 99);
        due("99 of more", x.letIn(one, x.late(0, 100), 0), 99);
        due("99 of many more", x.letIn(one, x.late(0, 999), 0), 99);
        due("of nothing 99", x.letIn(none, none, 0), 99);
    }

    /** "have a WAIT of no more than d in g"; "OUTSIDE: d is not 0 .. 40" */
    private static void edgesOfDelays() {
        BurstBounds x = new BurstBounds();
        int one = x.bucket(1, 0);
        int slow = x.late(0, 1);
        for (int d = 0; d <= 39; d++) {
            due("within " + d, x.letIn(one, slow, d), d + 1);
        }
        due("within 40", x.letIn(one, slow, 40), 40);
        due("within -1", x.letIn(one, slow, -1), OUTSIDE);
        due("within 41", x.letIn(one, slow, 41), OUTSIDE);
        due("stair 2", x.letIn(2, slow, 41), UNKNOWN);
        due("stair 2, the other", x.letIn(one, 2, 41), UNKNOWN);
    }

    /** A WAIT that is NONE is more than any d. */
    private static void letInTillTick40() {
        BurstBounds x = new BurstBounds();
        int at20 = Desk.from(x, 20, 1);
        due("TICK 40 serves two", x.letIn(at20, Desk.from(x, 40, 2), 20), 2);
        due("TICK 40 serves two, not sooner", x.letIn(at20, Desk.from(x, 40, 2), 19), 0);
        due("TICK 40 serves two, no more", x.letIn(at20, Desk.from(x, 40, 2), 40), 2);
    }

    /** A WAIT is one over TICKS 0 .. 20. */
    private static void letInByTick20() {
        BurstBounds x = new BurstBounds();
        int none = x.late(40, 0);
        due("what comes at TICK 20", x.letIn(Desk.from(x, 20, 1), none, 40), 0);
        due("what comes at TICK 21", x.letIn(Desk.from(x, 21, 1), none, 0), 99);
    }

    /** "summed (99999 at most)" */
    private static void letInSumsAreCut() {
        BurstBounds x = new BurstBounds();
        int one = x.bucket(9999, 0);
        int two = x.make(1, one, one);
        int four = x.make(1, two, two);
        int ten = x.make(1, x.make(1, four, four), two);
        due("99990: ten", x.letIn(one, ten, 0), 10);
        int just = x.make(1, ten, x.bucket(8, 0));
        due("99998: ten", x.letIn(one, just, 0), 10);
        int most = x.make(1, ten, x.bucket(9, 0));
        due("99999: all", x.letIn(one, most, 0), 99);
        due("no stair was made", x.many(0), 9);
    }
}
