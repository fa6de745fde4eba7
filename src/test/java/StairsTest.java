/** Promises 1 to 11: a new object, stairs, stairs made from others. */
public final class StairsTest {
    private static final int UNKNOWN = -1, OUTSIDE = -2, FULL = -4, NONE = -9;
    private static final int NULL = -11, CAST = -12, INDEX = -13, SIZE = -14;
    private static final int MIN = Integer.MIN_VALUE, MAX = Integer.MAX_VALUE;

    private static final Check CHECK = new Check("StairsTest");

    public static void main(String[] args) {
        promise1();
        promise2();
        promise2Wrong();
        promise3();
        promise4();
        promise5Texts();
        promise5Faults();
        promise5Wrong();
        promise6();
        promise7();
        promise7Caps();
        promise7Wrong();
        promise8();
        promise9();
        promise10();
        promise11();
        CHECK.end();
    }

    private static void due(String what, long got, long want) {
        CHECK.due(what, got, want);
    }

    private static void rowIs(String what, BurstBounds x, int f, int... from0) {
        for (int t = 0; t < from0.length; t++) {
            due(what + " at " + t, x.at(f, t), from0[t]);
        }
    }

    private static void promise1() {
        BurstBounds x = new BurstBounds();
        due("1 stairs", x.many(0), 0);
        due("1 flows", x.many(1), 0);
        due("1 seen", x.many(2), 0);
        due("1 serving nodes", x.many(3), 0);
        due("1 trace", x.trace(), 0);
        due("1 fault", x.fault(), 0);
        due("1 at", x.at(0, 0), UNKNOWN);
        due("1 flow", x.ofFlow(0, 0), UNKNOWN);
        for (int k = 0; k < 4; k++) {
            due("1 sheet " + k, x.lose(k), 0);
        }
        due("1 ring", x.ring(), 0);
        due("1 rule", x.rule(0), 0);
        due("1 node", x.serve(5, NONE), NONE);
        due("1 heap at a node", x.heapAt(0), -3);
    }

    private static void promise2() {
        BurstBounds x = new BurstBounds();
        Desk.row(x, 0, 0, 7, 1, 2, 3, 9);
        due("2 bytes", x.steps(0, 0, 1, 3), 0);
        rowIs("2 bytes", x, 0, 0, 1, 3, 6, 9, 12);
        due("2 goes on to 40", x.at(0, 40), 6 + 37 * 3);
        due("2 fault", x.fault(), 0);
        Desk.row(x, 1, 1, 999);
        due("2 shorts", x.steps(1, 1, 0, 1), 1);
        rowIs("2 shorts", x, 1, 0, 999, 1998);
        due("2 greatest", x.at(1, 40), 39960);
        int[] forty = new int[40];
        for (int i = 0; i < 40; i++) {
            forty[i] = i;
        }
        due("2 forty", Desk.steps(x, forty), 2);
        due("2 forty at 40", x.at(2, 40), 780);
        due("2 forty at 39", x.at(2, 39), 741);
        due("2 zeros", Desk.steps(x, 5, 0), 3);
        rowIs("2 zeros", x, 3, 0, 5, 5, 5);
        due("2 kind", x.as(3, 1), CAST);
        Desk.row(x, 0, 0, 50);
        due("2 the stair stays as it was", x.at(0, 1), 1);
    }

    private static void promise2Wrong() {
        BurstBounds x = new BurstBounds();
        due("2 unknown ahead of lane", x.steps(4, 3, -1, -1), UNKNOWN);
        due("2 unknown below", x.steps(-1, 0, 0, 1), UNKNOWN);
        due("2 lane ahead of null", x.steps(0, 3, -1, -1), OUTSIDE);
        due("2 lane below", x.steps(0, -1, 0, 1), OUTSIDE);
        due("2 null ahead of size", x.steps(0, 2, -1, -1), NULL);
        due("2 null told", x.fault(), 1);
        Desk.row(x, 0, 1, 1, 2, 1000, -1);
        due("2 cast ahead of size", x.steps(0, 2, -1, -1), CAST);
        due("2 cast told", x.fault(), 2);
        due("2 cast to a lesser lane", x.steps(0, 0, 0, 1), CAST);
        due("2 size ahead of index", x.steps(0, 1, -1, -1), SIZE);
        due("2 size told", x.fault(), 4);
        due("2 size least", x.steps(0, 1, 0, MIN), SIZE);
        due("2 index below", x.steps(0, 1, -1, 1), INDEX);
        due("2 index told", x.fault(), 3);
        due("2 index beyond", x.steps(0, 1, 3, 2), INDEX);
        due("2 index of none", x.steps(0, 1, 5, 0), INDEX);
        due("2 index of none below", x.steps(0, 1, -1, 0), INDEX);
        due("2 index wraps", x.steps(0, 1, MAX, MAX), INDEX);
        due("2 index wraps to one", x.steps(0, 1, 2, MAX), INDEX);
        due("2 none", x.steps(0, 1, 4, 0), OUTSIDE);
        due("2 refused: no fault", x.fault(), 0);
        due("2 a number above", x.steps(0, 1, 0, 3), OUTSIDE);
        due("2 a number below", x.steps(0, 1, 3, 1), OUTSIDE);
        due("2 forty one", Desk.steps(x, new int[41]), OUTSIDE);
        due("2 nothing was made", x.many(0), 0);
        due("2 one too many", x.steps(0, 1, 0, 3), OUTSIDE);
        due("2 good ones of it", x.steps(0, 1, 0, 2), 0);
        BurstBounds full = Desk.fullOfStairs();
        due("2 outside ahead of full", Desk.steps(full, 1000), OUTSIDE);
        due("2 full", Desk.steps(full, 1), FULL);
        due("2 full told", full.fault(), 0);
        due("2 full has 24", full.many(0), 24);
    }

    private static void promise3() {
        BurstBounds x = new BurstBounds();
        due("3 bucket", x.bucket(5, 3), 0);
        rowIs("3 bucket", x, 0, 0, 8, 11, 14);
        due("3 at 40", x.at(0, 40), 125);
        due("3 greatest", x.bucket(9999, 999), 1);
        due("3 greatest at 40", x.at(1, 40), 49959);
        due("3 least", x.bucket(0, 0), 2);
        due("3 least at 40", x.at(2, 40), 0);
        due("3 kind", x.as(0, 1), 1);
        due("3 no late one", x.as(0, 2), CAST);
        due("3 b above", x.bucket(10000, 0), OUTSIDE);
        due("3 b below", x.bucket(-1, 0), OUTSIDE);
        due("3 r above", x.bucket(0, 1000), OUTSIDE);
        due("3 r below", x.bucket(0, -1), OUTSIDE);
        due("3 none of these was made", x.many(0), 3);
        BurstBounds full = Desk.fullOfStairs();
        due("3 the last number", full.at(23, 1), 24);
        due("3 outside ahead of full", full.bucket(10000, 0), OUTSIDE);
        due("3 full", full.bucket(0, 0), FULL);
        due("3 full changes nothing", full.at(23, 1), 24);
    }

    private static void promise4() {
        BurstBounds x = new BurstBounds();
        due("4 late", x.late(2, 7), 0);
        rowIs("4 late", x, 0, 0, 0, 0, 7, 14);
        due("4 late at 40", x.at(0, 40), 266);
        due("4 at once", x.late(0, 999), 1);
        rowIs("4 at once", x, 1, 0, 999, 1998);
        due("4 never", x.late(40, 999), 2);
        due("4 never at 40", x.at(2, 40), 0);
        due("4 last", x.late(39, 5), 3);
        due("4 last at 40", x.at(3, 40), 5);
        due("4 kind", x.as(0, 2), 1);
        due("4 a bucket, too", x.as(0, 1), 1);
        due("4 l above", x.late(41, 0), OUTSIDE);
        due("4 l below", x.late(-1, 0), OUTSIDE);
        due("4 r above", x.late(0, 1000), OUTSIDE);
        due("4 r below", x.late(0, -1), OUTSIDE);
        BurstBounds full = Desk.fullOfStairs();
        due("4 outside ahead of full", full.late(41, 0), OUTSIDE);
        due("4 full", full.late(0, 0), FULL);
    }

    private static void promise5Texts() {
        BurstBounds x = new BurstBounds();
        due("5 bucket", Desk.text(x, "b5r3"), 0);
        rowIs("5 bucket", x, 0, 0, 8, 11);
        due("5 bucket is one", x.as(0, 1), 1);
        due("5 bucket is no late one", x.as(0, 2), CAST);
        due("5 late", Desk.text(x, "l0040r0999"), 1);
        due("5 late at 40", x.at(1, 40), 0);
        due("5 late is one", x.as(1, 2), 1);
        due("5 steps", Desk.text(x, "r9"), 2);
        rowIs("5 steps", x, 2, 0, 9, 18);
        due("5 steps is no bucket", x.as(2, 1), CAST);
        due("5 least", Desk.text(x, "b5r3&l0r9&r4"), 3);
        rowIs("5 least", x, 3, 0, 4, 8, 12, 16, 20, 23);
        due("5 least is no bucket", x.as(3, 1), CAST);
        due("5 sum", Desk.text(x, "b1r1+b2r2+r3"), 4);
        rowIs("5 sum", x, 4, 0, 9, 15, 21);
        due("5 six", Desk.text(x, "r1+r1+r1+r1+r1+r1"), 5);
        rowIs("5 six", x, 5, 0, 6, 12);
        String most = "b9999r999";
        due("5 most", Desk.text(x, most + "+" + most + "+" + most + "+" + most + "+" + most), 6);
        rowIs("5 most", x, 6, 0, 54990, 59985);
        due("5 most is cut", x.at(6, 11), 99999);
        due("5 most ahead of that", x.at(6, 10), 99945);
        due("5 most at 40", x.at(6, 40), 99999);
        Desk.codes(x, 0, 0, "xxl4r7yy");
        due("5 a part of a sheet", x.text(0, 0, 2, 4), 7);
        rowIs("5 a part of a sheet", x, 7, 0, 0, 0, 0, 0, 7, 14);
        Desk.codes(x, 1, 1, "r5&r3");
        due("5 shorts", x.text(1, 1, 0, 5), 8);
        rowIs("5 shorts", x, 8, 0, 3, 6);
        due("5 no fault", x.fault(), 0);
    }

    private static void faultIs(String text, int place) {
        BurstBounds x = new BurstBounds();
        due("5 '" + text + "'", Desk.text(x, text), -100 - place);
        due("5 '" + text + "' told", x.fault(), 0);
        due("5 '" + text + "' made", x.many(0), 0);
    }

    private static void promise5Faults() {
        faultIs("", 0);
        faultIs("x", 0);
        faultIs("5", 0);
        faultIs("&", 0);
        faultIs("b", 1);
        faultIs("b5", 2);
        faultIs("b5r", 3);
        faultIs("b5x", 2);
        faultIs("br5", 1);
        faultIs("b5l", 2);
        faultIs("b5&", 2);
        faultIs("b5r3&", 5);
        faultIs("b5r3&&", 5);
        faultIs("b5r3+x", 5);
        faultIs("b5r3b", 4);
        faultIs("r5r", 2);
        faultIs("r5 ", 2);
        faultIs("b10000r1", 5);
        faultIs("b1r10000", 3);
        faultIs("r1000", 1);
        faultIs("r1000x", 1);
        faultIs("r10005", 1);
        faultIs("r00005", 5);
        faultIs("r0999&r01000", 11);
        faultIs("r0999&r1000", 7);
        faultIs("l41r1", 1);
        faultIs("l41", 1);
        faultIs("l41x", 1);
        faultIs("l40", 3);
        faultIs("l4r1000", 3);
        faultIs("l00400r1", 1 + 4);
        faultIs("b1r1&b2r2+r3", 9);
        faultIs("b1r1+r2&r3", 7);
        faultIs("r1&r1&r1&r1&r1&r1&r1", 17);
        faultIs("r1&r1&r1&r1&r1&r1&", 17);
    }

    private static void promise5Wrong() {
        BurstBounds x = new BurstBounds();
        due("5 unknown ahead of lane", x.text(4, 3, -1, -1), UNKNOWN);
        due("5 lane ahead of null", x.text(0, 3, -1, -1), OUTSIDE);
        due("5 null", x.text(0, 0, -1, -1), NULL);
        due("5 null told", x.fault(), 1);
        Desk.codes(x, 0, 0, "r5");
        due("5 cast", x.text(0, 1, -1, -1), CAST);
        due("5 cast told", x.fault(), 2);
        due("5 size", x.text(0, 0, -1, -1), SIZE);
        due("5 size told", x.fault(), 4);
        due("5 index", x.text(0, 0, 1, 2), INDEX);
        due("5 index of none", x.text(0, 0, 3, 0), INDEX);
        due("5 index told", x.fault(), 3);
        due("5 none at the end", x.text(0, 0, 2, 0), -100);
        due("5 from the number on", x.text(0, 0, 1, 1), -100);
        x.put(0, 0, 'r' + 256);
        due("5 a code that was cut", x.text(0, 0, 0, 2), 0);
        Desk.row(x, 2, 2, 'r' + 256, '5');
        due("5 no such code", x.text(2, 2, 0, 2), -100);
        BurstBounds full = Desk.fullOfStairs();
        due("5 first fault ahead of full", Desk.text(full, "r5x"), -102);
        due("5 full", Desk.text(full, "r5"), FULL);
        due("5 full has 24", full.many(0), 24);
    }

    private static void promise6() {
        BurstBounds x = new BurstBounds();
        due("6 none yet", x.at(0, 0), UNKNOWN);
        x.bucket(5, 3);
        due("6 at 0", x.at(0, 0), 0);
        due("6 at 1", x.at(0, 1), 8);
        due("6 at 40", x.at(0, 40), 125);
        due("6 below", x.at(0, -1), OUTSIDE);
        due("6 above", x.at(0, 41), OUTSIDE);
        due("6 unknown", x.at(1, 0), UNKNOWN);
        due("6 unknown below", x.at(-1, 0), UNKNOWN);
        due("6 unknown none", x.at(NONE, 0), UNKNOWN);
        due("6 unknown ahead of outside", x.at(24, 41), UNKNOWN);
        due("6 far", x.at(MAX, MIN), UNKNOWN);
    }

    private static void promise7() {
        BurstBounds x = new BurstBounds();
        x.bucket(5, 3);
        x.late(2, 7);
        due("7 least", x.make(0, 0, 1), 2);
        rowIs("7 least", x, 2, 0, 0, 0, 7, 14, 20, 23);
        due("7 least at 40", x.at(2, 40), 125);
        due("7 sum", x.make(1, 0, 1), 3);
        rowIs("7 sum", x, 3, 0, 8, 11, 21, 31);
        due("7 along", x.make(2, 0, 1), 4);
        rowIs("7 along", x, 4, 0, 0, 0, 7, 11, 14, 17);
        due("7 out", x.make(3, 0, 1), 5);
        rowIs("7 out", x, 5, 0, 14, 17, 20);
        due("7 out at 39", x.at(5, 39), 125);
        due("7 out at 38", x.at(5, 38), 125);
        due("7 out at 37", x.at(5, 37), 122);
        due("7 out at 40", x.at(5, 40), 125);
        due("7 left", x.make(4, 1, 0), 6);
        rowIs("7 left", x, 6, 0, 0, 0, 0, 0, 1, 5, 9);
        int steps = Desk.steps(x, 9, 0, 0, 0, 1);
        due("7 left of what falls behind", x.make(4, steps, 0), 8);
        rowIs("7 left of what falls behind", x, 8, 0, 1, 1, 1);
        due("7 left at 40", x.at(8, 40), 1);
        due("7 out of the same", x.make(3, steps, steps), 9);
        rowIs("7 out of the same", x, 9, 0, 9, 9, 9, 9, 10);
        due("7 out never falls", x.make(3, x.late(0, 0), x.late(39, 1)), 12);
        due("7 kind", x.as(2, 1), CAST);
        due("7 with itself", x.make(2, 0, 0), 13);
        rowIs("7 with itself", x, 13, 0, 8, 11);
        due("7 the first one stays", x.at(0, 1), 8);
        due("7 many", x.many(0), 14);
    }

    private static void promise7Caps() {
        BurstBounds x = new BurstBounds();
        x.bucket(9999, 999);
        x.make(1, 0, 0);
        due("7 sum at 40", x.at(1, 40), 99918);
        x.make(1, 1, 0);
        due("7 sum is cut", x.at(2, 40), 99999);
        due("7 sum ahead of it", x.at(2, 23), 98928);
        due("7 sum cut at 24", x.at(2, 24), 99999);
        x.make(2, 2, 2);
        due("7 along at 1", x.at(3, 1), 32994);
        due("7 along at 40", x.at(3, 40), 99999);
        x.late(40, 0);
        x.make(3, 2, 4);
        due("7 out at 1", x.at(5, 1), 99999);
        due("7 out at 0", x.at(5, 0), 0);
    }

    private static void promise7Wrong() {
        BurstBounds x = new BurstBounds();
        due("7 none yet", x.make(5, 0, 0), UNKNOWN);
        x.bucket(1, 1);
        due("7 f", x.make(0, 1, 0), UNKNOWN);
        due("7 g", x.make(0, 0, 1), UNKNOWN);
        due("7 g below", x.make(0, 0, -1), UNKNOWN);
        due("7 unknown ahead of outside", x.make(5, 0, 1), UNKNOWN);
        due("7 what above", x.make(5, 0, 0), OUTSIDE);
        due("7 what below", x.make(-1, 0, 0), OUTSIDE);
        due("7 nothing made", x.many(0), 1);
        BurstBounds full = Desk.fullOfStairs();
        due("7 outside ahead of full", full.make(5, 0, 0), OUTSIDE);
        for (int what = 0; what < 5; what++) {
            due("7 full", full.make(what, 0, 23), FULL);
        }
    }

    private static void promise8() {
        BurstBounds x = new BurstBounds();
        x.bucket(5, 3);
        due("8 held back", x.move(0, 0, 2), 1);
        rowIs("8 held back", x, 1, 0, 0, 0, 8, 11);
        due("8 held back at 40", x.at(1, 40), 119);
        due("8 held back by 0", x.move(0, 0, 0), 2);
        rowIs("8 held back by 0", x, 2, 0, 8, 11);
        due("8 held back by 40", x.move(0, 0, 40), 3);
        due("8 held back by 40 at 40", x.at(3, 40), 0);
        due("8 held back by 39", x.move(0, 0, 39), 4);
        due("8 held back by 39 at 40", x.at(4, 40), 8);
        due("8 ahead", x.move(1, 0, 2), 5);
        rowIs("8 ahead", x, 5, 0, 14, 17);
        due("8 ahead at 38", x.at(5, 38), 125);
        due("8 ahead at 39", x.at(5, 39), 125);
        due("8 ahead at 40", x.at(5, 40), 125);
        due("8 ahead at 37", x.at(5, 37), 122);
        due("8 ahead by 0", x.move(1, 0, 0), 6);
        rowIs("8 ahead by 0", x, 6, 0, 8, 11);
        due("8 ahead by 40", x.move(1, 0, 40), 7);
        rowIs("8 ahead by 40", x, 7, 0, 125, 125);
        due("8 kind", x.as(5, 1), CAST);
        due("8 unknown ahead of outside", x.move(2, 8, 41), UNKNOWN);
        due("8 unknown below", x.move(0, -1, 0), UNKNOWN);
        due("8 what above", x.move(2, 0, 0), OUTSIDE);
        due("8 what below", x.move(-1, 0, 0), OUTSIDE);
        due("8 d above", x.move(0, 0, 41), OUTSIDE);
        due("8 d below", x.move(1, 0, -1), OUTSIDE);
        due("8 many", x.many(0), 8);
        BurstBounds full = Desk.fullOfStairs();
        due("8 outside ahead of full", full.move(0, 0, 41), OUTSIDE);
        due("8 full held back", full.move(0, 0, 0), FULL);
        due("8 full ahead", full.move(1, 0, 0), FULL);
    }

    private static void promise9() {
        BurstBounds x = new BurstBounds();
        x.bucket(5, 3);
        x.late(4, 7);
        x.late(0, 2);
        due("9 wait", x.delay(0, 1), 5);
        due("9 of itself", x.delay(0, 0), 0);
        due("9 none", x.delay(1, 2), NONE);
        due("9 grows", x.delay(0, 2), 13);
        int ones = Desk.steps(x, 1);
        int later = x.late(20, 1);
        due("9 till tick 40", x.delay(ones, later), 20);
        due("9 beyond tick 40", x.delay(ones, x.late(21, 1)), NONE);
        int behind20 = x.move(0, x.bucket(9999, 0), 20);
        due("9 ticks behind 20 don't count", x.delay(behind20, x.late(40, 0)), 0);
        int at20 = x.move(0, x.bucket(7, 0), 19);
        due("9 tick 20 counts", x.delay(at20, x.late(40, 0)), NONE);
        due("9 from tick 1 on", x.delay(x.bucket(1, 0), x.late(39, 1)), 39);
        due("9 nothing waits", x.delay(x.bucket(0, 0), x.late(40, 0)), 0);
        due("9 unknown f", x.delay(99, 0), UNKNOWN);
        due("9 unknown g", x.delay(0, -1), UNKNOWN);
    }

    private static void promise10() {
        BurstBounds x = new BurstBounds();
        x.bucket(5, 3);
        x.late(4, 7);
        due("10 heap", x.heap(0, 1), 17);
        due("10 the other way", x.heap(1, 0), 127);
        due("10 of itself", x.heap(0, 0), 0);
        x.late(0, 0);
        due("10 never below 0", x.heap(2, 1), 0);
        due("10 all", x.heap(0, 2), 125);
        due("10 unknown f", x.heap(3, 0), UNKNOWN);
        due("10 unknown g", x.heap(0, 3), UNKNOWN);
    }

    private static void promise11() {
        BurstBounds x = new BurstBounds();
        x.late(39, 1);
        x.late(40, 0);
        x.bucket(1, 0);
        due("11 greater at 40 alone", x.within(0, 1), 0);
        due("11 within", x.within(1, 0), 1);
        due("11 itself", x.within(0, 0), 1);
        due("11 equal at the end", x.within(0, 2), 1);
        due("11 greater at 1", x.within(2, 0), 0);
        due("11 unknown f", x.within(3, 0), UNKNOWN);
        due("11 unknown g", x.within(0, -1), UNKNOWN);
    }
}
