/** Promises 26 to 36: sheets, telling, faults, how many. */
public final class SheetsTest {
    private static final int UNKNOWN = -1, OUTSIDE = -2, NONE = -9;
    private static final int NULL = -11, CAST = -12, INDEX = -13, SIZE = -14;
    private static final int MIN = Integer.MIN_VALUE, MAX = Integer.MAX_VALUE;
    private static final long LOST = Long.MIN_VALUE;

    private static final Check CHECK = new Check("SheetsTest");

    public static void main(String[] args) {
        promise26();
        promise27();
        promise28();
        promise29();
        promise30();
        promise30Wrong();
        promise31();
        promise32();
        promise33();
        promise34();
        promise35();
        promise36();
        CHECK.end();
    }

    private static void due(String what, long got, long want) {
        CHECK.due(what, got, want);
    }

    private static void promise26() {
        BurstBounds x = new BurstBounds();
        due("26 none", x.sheet(0, 0, 0), 1);
        due("26 none: no cell", x.cell(0, 0, 0), LOST);
        due("26 sixty", x.sheet(3, 2, 60), 1);
        due("26 zero at first", x.cell(3, 59, 2), 0);
        x.put(3, 59, 7);
        due("26 anew", x.sheet(3, 2, 60), 1);
        due("26 zero again", x.cell(3, 59, 2), 0);
        x.put(3, 1, 7);
        due("26 shorter", x.sheet(3, 2, 1), 1);
        due("26 beyond the shorter", x.cell(3, 1, 2), LOST);
        due("26 longer", x.sheet(3, 1, 2), 1);
        due("26 zero in the longer", x.cell(3, 1, 1), 0);
        due("26 sheet above", x.sheet(4, 3, -1), UNKNOWN);
        due("26 sheet below", x.sheet(-1, 0, 1), UNKNOWN);
        due("26 lane ahead of size", x.sheet(3, 3, -1), OUTSIDE);
        due("26 lane told", x.fault(), 0);
        due("26 lane below", x.sheet(3, -1, 1), OUTSIDE);
        due("26 n above", x.sheet(3, 0, 61), OUTSIDE);
        due("26 n far above", x.sheet(3, 0, MAX), OUTSIDE);
        due("26 size", x.sheet(3, 0, -1), SIZE);
        due("26 size told", x.fault(), 4);
        due("26 size far below", x.sheet(3, 0, MIN), SIZE);
        due("26 refused changes nothing", x.cell(3, 1, 1), 0);
    }

    private static void promise27() {
        BurstBounds x = new BurstBounds();
        due("27 nothing", x.lose(0), 0);
        x.sheet(0, 0, 0);
        due("27 a row of none", x.lose(0), 1);
        due("27 lost", x.lose(0), 0);
        due("27 nothing to put to", x.put(0, 0, 1), NULL);
        due("27 names no fault", x.lose(4), UNKNOWN);
        due("27 the fault stays", x.fault(), 1);
        due("27 below", x.lose(-1), UNKNOWN);
        x.sheet(0, 2, 1);
        due("27 a new one is 0", x.cell(0, 0, 2), 0);
    }

    private static void promise28() {
        BurstBounds x = new BurstBounds();
        due("28 sheet", x.put(4, -1, 0), UNKNOWN);
        due("28 sheet below", x.put(-1, 0, 0), UNKNOWN);
        due("28 null ahead of index", x.put(0, -1, 0), NULL);
        due("28 null told", x.fault(), 1);
        x.sheet(0, 0, 2);
        x.sheet(1, 1, 2);
        x.sheet(2, 2, 2);
        due("28 byte", x.put(0, 1, 200), 1);
        due("28 byte cut", x.cell(0, 1, 0), -56);
        due("28 its neighbour", x.cell(0, 0, 0), 0);
        x.put(0, 0, -129);
        due("28 byte cut from below", x.cell(0, 0, 0), 127);
        x.put(0, 0, MIN);
        due("28 byte of the least", x.cell(0, 0, 0), 0);
        due("28 short", x.put(1, 0, 40000), 1);
        due("28 short cut", x.cell(1, 0, 1), -25536);
        x.put(1, 0, 300);
        due("28 short kept", x.cell(1, 0, 1), 300);
        due("28 int", x.put(2, 0, MIN), 1);
        due("28 int kept", x.cell(2, 0, 2), MIN);
        due("28 index above", x.put(0, 2, 1), INDEX);
        due("28 index told", x.fault(), 3);
        due("28 index below", x.put(0, -1, 1), INDEX);
        due("28 index far", x.put(0, MAX, 1), INDEX);
        due("28 fine", x.put(0, 0, 1), 1);
        due("28 fine told", x.fault(), 0);
    }

    private static void promise29() {
        BurstBounds x = new BurstBounds();
        due("29 sheet", x.cell(4, -1, 3), LOST);
        due("29 sheet told", x.fault(), 0);
        due("29 null", x.cell(0, -1, 1), LOST);
        due("29 null told", x.fault(), 1);
        due("29 lane ahead of null", x.cell(0, -1, 3), LOST);
        due("29 lane told", x.fault(), 0);
        Desk.row(x, 0, 1, 5, -6);
        due("29 first", x.cell(0, 0, 1), 5);
        due("29 last", x.cell(0, 1, 1), -6);
        due("29 fine told", x.fault(), 0);
        due("29 cast ahead of index", x.cell(0, -1, 2), LOST);
        due("29 cast told", x.fault(), 2);
        due("29 cast to bytes", x.cell(0, 0, 0), LOST);
        due("29 index above", x.cell(0, 2, 1), LOST);
        due("29 index told", x.fault(), 3);
        due("29 lane below", x.cell(0, 0, -1), LOST);
        due("29 lane below told", x.fault(), 0);
        due("29 index below", x.cell(0, -1, 1), LOST);
        due("29 index below told", x.fault(), 3);
        due("29 the constant", BurstBounds.LOST, LOST);
    }

    private static void promise30() {
        BurstBounds x = new BurstBounds();
        Desk.row(x, 0, 0, 1, 2, 3, 4, 5);
        x.sheet(1, 0, 3);
        due("30 copy", x.copy(0, 1, 1, 0, 3), 3);
        due("30 first", x.cell(1, 0, 0), 2);
        due("30 last", x.cell(1, 2, 0), 4);
        due("30 none", x.copy(0, 5, 1, 3, 0), 0);
        due("30 up on itself", x.copy(0, 0, 0, 1, 4), 4);
        int[] up = {1, 1, 2, 3, 4};
        for (int i = 0; i < 5; i++) {
            due("30 up " + i, x.cell(0, i, 0), up[i]);
        }
        due("30 down on itself", x.copy(0, 2, 0, 0, 3), 3);
        int[] down = {2, 3, 4, 3, 4};
        for (int i = 0; i < 5; i++) {
            due("30 down " + i, x.cell(0, i, 0), down[i]);
        }
        due("30 fine told", x.fault(), 0);
    }

    private static void promise30Wrong() {
        BurstBounds x = new BurstBounds();
        Desk.row(x, 0, 0, 1, 2, 3);
        x.sheet(1, 1, 3);
        x.sheet(2, 0, 2);
        due("30 sheet", x.copy(4, -1, 0, -1, -1), UNKNOWN);
        due("30 other", x.copy(0, -1, -1, -1, -1), UNKNOWN);
        due("30 other ahead of null", x.copy(3, 0, 4, 0, 0), UNKNOWN);
        due("30 null", x.copy(3, -1, 0, -1, -1), NULL);
        due("30 null told", x.fault(), 1);
        due("30 other null", x.copy(0, -1, 3, -1, -1), NULL);
        due("30 cast ahead of index", x.copy(0, -1, 1, -1, -1), CAST);
        due("30 cast told", x.fault(), 2);
        due("30 i below", x.copy(0, -1, 2, 0, 1), INDEX);
        due("30 index told", x.fault(), 3);
        due("30 j below", x.copy(0, 0, 2, -1, 1), INDEX);
        due("30 n below", x.copy(0, 0, 2, 0, -1), INDEX);
        due("30 i beyond", x.copy(0, 2, 2, 0, 2), INDEX);
        due("30 j beyond", x.copy(0, 0, 2, 1, 2), INDEX);
        due("30 i beyond, none", x.copy(0, 4, 2, 0, 0), INDEX);
        due("30 j beyond, none", x.copy(0, 0, 2, 3, 0), INDEX);
        due("30 wraps", x.copy(0, 1, 2, 1, MAX), INDEX);
        due("30 wraps far", x.copy(0, MAX, 2, MAX, MAX), INDEX);
        due("30 least", x.copy(0, 0, 2, 0, MIN), INDEX);
        due("30 nothing changed", x.cell(2, 0, 0), 0);
        due("30 nothing changed there", x.cell(2, 1, 0), 0);
    }

    private static BurstBounds ofEachKind() {
        BurstBounds x = new BurstBounds();
        Desk.steps(x, 4);
        x.bucket(1, 4);
        x.late(1, 4);
        return x;
    }

    private static void promise31() {
        BurstBounds x = ofEachKind();
        due("31 steps", x.tell(0), 40);
        due("31 trace of steps", x.trace(), 1);
        due("31 bucket", x.tell(1), 100041);
        due("31 trace of a bucket", x.trace(), (1 * 31 + 2) * 31 + 1);
        BurstBounds y = ofEachKind();
        due("31 late", y.tell(2), 100072);
        due("31 trace of a late one", y.trace(), ((3 * 31 + 2) * 31 + 1) * 31 + 1);
        due("31 unknown", y.tell(3), UNKNOWN);
        due("31 unknown below", y.tell(-1), UNKNOWN);
        due("31 unknown leaves none", y.trace(), ((3 * 31 + 2) * 31 + 1) * 31 + 1);
        due("31 what is made is steps", y.tell(y.make(0, 1, 1)), 41);
        due("31 what is moved is steps", y.tell(y.move(0, 2, 0)), 36);
        due("31 by a text", y.tell(Desk.text(y, "l1r4")), 100072);
        due("31 by a text of two", y.tell(Desk.text(y, "l1r4&l1r4")), 36);
        due("31 by a text of steps", y.tell(Desk.text(y, "r4")), 40);
    }

    private static void promise32() {
        BurstBounds x = ofEachKind();
        due("32 steps", x.draw(0), 0);
        due("32 trace of steps", x.trace(), 4);
        due("32 bucket", x.draw(1), 1);
        due("32 trace of a bucket", x.trace(), 4 * 31 + 4);
        due("32 late", x.draw(2), 60);
        due("32 trace of a late one", x.trace(), (4 * 31 + 4) * 31 + 5);
        due("32 unknown", x.draw(3), UNKNOWN);
        due("32 unknown below", x.draw(-1), UNKNOWN);
        due("32 unknown leaves none", x.trace(), (4 * 31 + 4) * 31 + 5);
        due("32 what is made is steps", x.draw(x.make(1, 2, 2)), 3);
    }

    private static void promise33() {
        BurstBounds x = ofEachKind();
        for (int f = 0; f < 3; f++) {
            for (int kind = 0; kind < 3; kind++) {
                due("33 " + f + " as " + kind, x.as(f, kind), kind <= f ? 1 : CAST);
                due("33 " + f + " as " + kind + " told", x.fault(), kind <= f ? 0 : 2);
            }
        }
        due("33 unknown ahead of outside", x.as(3, 3), UNKNOWN);
        due("33 unknown below", x.as(-1, 0), UNKNOWN);
        due("33 kind above", x.as(0, 3), OUTSIDE);
        due("33 kind below", x.as(0, -1), OUTSIDE);
        x.as(0, 1);
        due("33 cast told", x.fault(), 2);
        x.as(0, 3);
        due("33 refused told", x.fault(), 0);
        due("33 leaves no trace", x.trace(), 0);
    }

    private static void promise34() {
        BurstBounds x = ofEachKind();
        due("34 at first", x.trace(), 0);
        int trace = 0;
        for (int i = 0; i < 9; i++) {
            x.draw(2);
            trace = 31 * trace + 5;
            due("34 wraps " + i, x.trace(), trace);
        }
        due("34 tells it only", x.trace(), trace);
    }

    private static void promise35() {
        BurstBounds x = ofEachKind();
        due("35 fine ahead", x.fault(), 0);
        x.put(0, 0, 0);
        due("35 null", x.fault(), 1);
        due("35 tells it again", x.fault(), 1);
        x.at(99, 0);
        x.bucket(-1, 0);
        x.lose(0);
        x.tell(0);
        x.draw(0);
        x.serve(9, 0);
        x.burst(0);
        x.many(9);
        x.trace();
        x.ring();
        due("35 calls that name none", x.fault(), 1);
        x.sheet(0, 0, 1);
        due("35 fine", x.fault(), 0);
        x.sheet(0, 0, -1);
        due("35 size", x.fault(), 4);
        x.steps(9, 0, 0, 0);
        due("35 refused", x.fault(), 0);
        x.copy(0, 0, 0, 0, 2);
        due("35 index", x.fault(), 3);
        Desk.text(x, "zz");
        due("35 a first fault is no fault", x.fault(), 0);
        x.as(0, 2);
        due("35 cast", x.fault(), 2);
        x.cell(0, 0, 0);
        due("35 a fine cell", x.fault(), 0);
    }

    private static void promise36() {
        BurstBounds x = ofEachKind();
        due("36 stairs", x.many(0), 3);
        Desk.flow(x, 0, 0);
        Desk.flow(x, 0, 1);
        due("36 flows", x.many(1), 2);
        Desk.see(x, 1, 2, 3, 4);
        due("36 seen", x.many(2), 4);
        x.serve(0, 0);
        x.serve(3, 0);
        x.serve(5, 2);
        due("36 nodes", x.many(3), 3);
        x.serve(3, NONE);
        due("36 nodes less", x.many(3), 2);
        due("36 above", x.many(4), OUTSIDE);
        due("36 below", x.many(-1), OUTSIDE);
    }
}
