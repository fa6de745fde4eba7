/** The boundary cases of promises 26 to 36, sentence by sentence. */
public final class SheetEdgesTest {
    private static final int UNKNOWN = -1, OUTSIDE = -2, NONE = -9;
    private static final int NULL = -11, CAST = -12, INDEX = -13, SIZE = -14;
    private static final int MIN = Integer.MIN_VALUE, MAX = Integer.MAX_VALUE;
    private static final long LOST = Long.MIN_VALUE;

    private static final Check CHECK = new Check("SheetEdgesTest");

    public static void main(String[] args) {
        lengthsOfSheets();
        sheetsAnew();
        losing();
        firstAndLastCells();
        cutToLanes();
        everyLane();
        nothingIsNoCast();
        copiesOfNone();
        copiesToTheEnds();
        copiesOnThemselves();
        copiesPlaceByPlace();
        copiesOfEachLane();
        tellings();
        tellingAtTick10();
        drawings();
        kinds();
        traceWraps();
        tracesThatAreLeft();
        faultsOfEachCall();
        faultsThatStay();
        counts();
        CHECK.end();
    }

    private static void due(String what, long got, long want) {
        CHECK.due(what, got, want);
    }

    // ---- promises 26, 27

    /** "SHEETS 0 .. 3 ..: a row of 0 .. 60 numbers (0 at first) of a LANE" */
    private static void lengthsOfSheets() {
        for (int k = 0; k < 4; k++) {
            for (int lane = 0; lane < 3; lane++) {
                for (int n : new int[] {0, 1, 59, 60}) {
                    BurstBounds x = new BurstBounds();
                    due("sheet of " + n, x.sheet(k, lane, n), 1);
                    due("no fault", x.fault(), 0);
                    for (int i = 0; i < n; i++) {
                        due("0 at first", x.cell(k, i, lane), 0);
                    }
                    due("beyond " + n, x.cell(k, n, lane), LOST);
                    due("beyond is an index", x.fault(), 3);
                    due("others have nothing", x.lose((k + 1) % 4), 0);
                }
            }
        }
        BurstBounds x = new BurstBounds();
        due("of 61", x.sheet(0, 0, 61), OUTSIDE);
        due("of 61 told", x.fault(), 0);
        due("of -1", x.sheet(0, 0, -1), SIZE);
        due("of -1 told", x.fault(), 4);
        due("of -1 of no lane", x.sheet(0, 3, -1), OUTSIDE);
        due("sheet 4", x.sheet(4, 3, -1), UNKNOWN);
        due("sheet -1", x.sheet(-1, 0, 0), UNKNOWN);
        due("none of them came", x.lose(0), 0);
    }

    /** "A SHEET gets a new row": nothing of the one before is left. */
    private static void sheetsAnew() {
        BurstBounds x = new BurstBounds();
        x.sheet(1, 2, 60);
        for (int i = 0; i < 60; i++) {
            x.put(1, i, i + 1);
        }
        due("a shorter row", x.sheet(1, 0, 30), 1);
        due("its last cell", x.cell(1, 29, 0), 0);
        due("no cell behind it", x.cell(1, 30, 0), LOST);
        due("not of the lane before", x.cell(1, 0, 2), LOST);
        due("it is a cast", x.fault(), 2);
        due("a longer row", x.sheet(1, 2, 60), 1);
        for (int i = 0; i < 60; i++) {
            due("0 again at " + i, x.cell(1, i, 2), 0);
        }
        x.put(1, 3, 5);
        due("refused", x.sheet(1, 0, 61), OUTSIDE);
        due("the row stays", x.cell(1, 3, 2), 5);
        due("refused by its size", x.sheet(1, 0, -1), SIZE);
        due("the row still stays", x.cell(1, 3, 2), 5);
        due("its end stays", x.cell(1, 59, 2), 0);
    }

    /** "A SHEET has nothing: 1; 0: it had nothing. UNKNOWN." */
    private static void losing() {
        for (int k = 0; k < 4; k++) {
            BurstBounds x = new BurstBounds();
            due("had nothing", x.lose(k), 0);
            x.sheet(k, 0, 0);
            due("had a row of none", x.lose(k), 1);
            due("has nothing", x.lose(k), 0);
            x.sheet(k, 2, 60);
            x.put(k, 0, 7);
            due("had a row of 60", x.lose(k), 1);
            due("no cell of nothing", x.cell(k, 0, 2), LOST);
            due("it is null", x.fault(), 1);
            due("no put to nothing", x.put(k, 0, 1), NULL);
            x.sheet(k, 2, 1);
            due("a new row is 0", x.cell(k, 0, 2), 0);
        }
        BurstBounds x = new BurstBounds();
        due("sheet -1", x.lose(-1), UNKNOWN);
        due("sheet 4", x.lose(4), UNKNOWN);
    }

    // ---- promises 28, 29

    /** put: "Cell i of a SHEET becomes v: 1. UNKNOWN; NULL; INDEX." */
    private static void firstAndLastCells() {
        for (int n : new int[] {1, 2, 60}) {
            BurstBounds x = new BurstBounds();
            x.sheet(2, 1, n);
            due("the last cell", x.put(2, n - 1, 9), 1);
            due("the first cell", x.put(2, 0, 7), 1);
            due("the first cell is", x.cell(2, 0, 1), 7);
            due("the last cell is", x.cell(2, n - 1, 1), n == 1 ? 7 : 9);
            due("ahead of the first", x.put(2, -1, 5), INDEX);
            due("behind the last", x.put(2, n, 5), INDEX);
            due("ahead of the first, read", x.cell(2, -1, 1), LOST);
            due("behind the last, read", x.cell(2, n, 1), LOST);
            due("the first cell stays", x.cell(2, 0, 1), 7);
        }
        BurstBounds x = new BurstBounds();
        x.sheet(2, 1, 0);
        due("no first cell of none", x.put(2, 0, 5), INDEX);
        due("no first cell of none, read", x.cell(2, 0, 1), LOST);
        due("an index", x.fault(), 3);
    }

    /** "what comes to a cell of it is cut to its LANE (with its sign)" */
    private static void cutToLanes() {
        int[] numbers = {0, 1, -1, 127, 128, -128, -129, 255, 256, -256, 32767, 32768, -32768, -32769, 65535, 65536,
            MAX, MIN, MAX - 127, MIN + 128};
        for (int number : numbers) {
            BurstBounds x = new BurstBounds();
            for (int lane = 0; lane < 3; lane++) {
                x.sheet(lane, lane, 1);
                due("put " + number, x.put(lane, 0, number), 1);
            }
            due(number + " as a byte", x.cell(0, 0, 0), ((number + 128) & 255) - 128);
            due(number + " as a short", x.cell(1, 0, 1), ((number + 32768) & 65535) - 32768);
            due(number + " as an int", x.cell(2, 0, 2), number);
        }
    }

    /** "taken as a row of a LANE"; "OUTSIDE: lane; FAULTS CAST" */
    private static void everyLane() {
        for (int lane = 0; lane < 3; lane++) {
            BurstBounds x = new BurstBounds();
            x.sheet(0, lane, 1);
            x.put(0, 0, 5);
            for (int other = -1; other <= 4; other++) {
                due("lane " + lane + " as " + other, x.cell(0, 0, other), other == lane ? 5 : LOST);
                boolean isLane = other >= 0 && other < 3;
                due("lane " + lane + " as " + other + " told", x.fault(), isLane && other != lane ? 2 : 0);
            }
        }
    }

    /** "CAST (nothing is no CAST), NULL" */
    private static void nothingIsNoCast() {
        for (int lane = 0; lane < 3; lane++) {
            BurstBounds x = new BurstBounds();
            x.bucket(1, 1);
            // a row that is lost leaves no LANE behind
            x.sheet(0, 1, 4);
            x.lose(0);
            for (int k = 0; k < 2; k++) {
                due("cell of nothing", x.cell(k, 0, lane), LOST);
                due("cell of nothing told", x.fault(), 1);
                due("steps of nothing", x.steps(k, lane, 0, 1), NULL);
                due("text of nothing", x.text(k, lane, 0, 1), NULL);
                due("flow of nothing", x.flow(0, k, lane, 0, 1), NULL);
                due("see of nothing", x.see(k, lane, 0, 1), NULL);
                due("see of nothing told", x.fault(), 1);
            }
            x.sheet(2, lane, 1);
            due("copy of nothing", x.copy(0, 0, 2, 0, 0), NULL);
            due("copy to nothing", x.copy(2, 0, 0, 0, 0), NULL);
        }
    }

    // ---- promise 30

    /** "n cells of a SHEET from i on go to another one ..: n": none of them, too */
    private static void copiesOfNone() {
        BurstBounds x = new BurstBounds();
        Desk.row(x, 0, 2, 1, 2, 3);
        x.sheet(1, 2, 0);
        due("none from the first", x.copy(0, 0, 1, 0, 0), 0);
        due("none from behind the last", x.copy(0, 3, 1, 0, 0), 0);
        due("none from beyond", x.copy(0, 4, 1, 0, 0), INDEX);
        due("none from ahead", x.copy(0, -1, 1, 0, 0), INDEX);
        due("none to behind the last", x.copy(1, 0, 0, 3, 0), 0);
        due("none to beyond", x.copy(1, 0, 0, 4, 0), INDEX);
        due("none to ahead", x.copy(1, 0, 0, -1, 0), INDEX);
        due("none of none", x.copy(1, 0, 1, 0, 0), 0);
        due("one of none", x.copy(1, 0, 0, 0, 1), INDEX);
        due("one to none", x.copy(0, 0, 1, 0, 1), INDEX);
        for (int i = 0; i < 3; i++) {
            due("nothing changed", x.cell(0, i, 2), i + 1);
        }
    }

    /** "INDEX: i, j, n below 0 or beyond": the last that is taken, the first that is refused */
    private static void copiesToTheEnds() {
        BurstBounds x = new BurstBounds();
        Desk.row(x, 0, 0, 1, 2, 3, 4);
        x.sheet(1, 0, 3);
        due("to the end of the other", x.copy(0, 0, 1, 0, 3), 3);
        due("beyond the end of the other", x.copy(0, 0, 1, 0, 4), INDEX);
        due("beyond it by j", x.copy(0, 0, 1, 1, 3), INDEX);
        due("from the end", x.copy(0, 1, 1, 0, 3), 3);
        due("from beyond the end", x.copy(0, 2, 1, 0, 3), INDEX);
        due("the last to the last", x.copy(0, 3, 1, 2, 1), 1);
        due("n -1", x.copy(0, 1, 1, 1, -1), INDEX);
        due("n -1 told", x.fault(), 3);
        int[] there = {2, 3, 4};
        for (int i = 0; i < 3; i++) {
            due("copied " + i, x.cell(1, i, 0), there[i]);
            due("as it was " + i, x.cell(0, i, 0), i + 1);
        }
        x.sheet(2, 2, 60);
        x.sheet(3, 2, 60);
        x.put(2, 0, 5);
        x.put(2, 59, 6);
        due("all of 60", x.copy(2, 0, 3, 0, 60), 60);
        due("the first of 60", x.cell(3, 0, 2), 5);
        due("the last of 60", x.cell(3, 59, 2), 6);
        due("61 of 60", x.copy(2, 0, 3, 0, 61), INDEX);
    }

    /** "(perhaps the same) .., as they were" */
    private static void copiesOnThemselves() {
        for (int i = 0; i <= 5; i++) {
            for (int j = 0; j <= 5; j++) {
                for (int n = 0; n <= 5; n++) {
                    BurstBounds x = new BurstBounds();
                    Desk.row(x, 3, 1, 1, 2, 3, 4, 5);
                    boolean isThere = i + n <= 5 && j + n <= 5;
                    String told = Calls.told("copy", 3, i, 3, j, n);
                    due(told, x.copy(3, i, 3, j, n), isThere ? n : INDEX);
                    for (int c = 0; c < 5; c++) {
                        boolean isNew = isThere && c >= j && c < j + n;
                        due(told + " at " + c, x.cell(3, c, 1), isNew ? 1 + i + c - j : 1 + c);
                    }
                }
            }
        }
    }

    private static void copiesPlaceByPlace() {
        for (int i = -1; i <= 4; i++) {
            for (int j = -1; j <= 3; j++) {
                for (int n = -1; n <= 4; n++) {
                    BurstBounds x = new BurstBounds();
                    Desk.row(x, 0, 2, 1, 2, 3);
                    Desk.row(x, 1, 2, 8, 9);
                    boolean isThere = i >= 0 && j >= 0 && n >= 0 && i + n <= 3 && j + n <= 2;
                    String told = Calls.told("copy", 0, i, 1, j, n);
                    due(told, x.copy(0, i, 1, j, n), isThere ? n : INDEX);
                    due(told + " told", x.fault(), isThere ? 0 : 3);
                    for (int c = 0; c < 2; c++) {
                        boolean isNew = isThere && c >= j && c < j + n;
                        due(told + " at " + c, x.cell(1, c, 2), isNew ? 1 + i + c - j : 8 + c);
                    }
                }
            }
        }
    }

    /** "CAST (unlike LANES)" */
    private static void copiesOfEachLane() {
        int[] least = {-128, -32768, MIN};
        for (int lane = 0; lane < 3; lane++) {
            for (int other = 0; other < 3; other++) {
                BurstBounds x = new BurstBounds();
                Desk.row(x, 0, lane, least[lane]);
                x.sheet(1, other, 1);
                due("lane " + lane + " to " + other, x.copy(0, 0, 1, 0, 1), lane == other ? 1 : CAST);
                due("lane " + lane + " to " + other + " told", x.fault(), lane == other ? 0 : 2);
                due("what is there", x.cell(1, 0, other), lane == other ? least[lane] : 0);
                due("none of it", x.copy(0, 1, 1, 1, 0), lane == other ? 0 : CAST);
            }
        }
    }

    // ---- promises 31 to 34

    /** STAIRS 0: STEPS of 4, 1: b1r4, 2: l1r4. */
    private static BurstBounds ofEachKind() {
        BurstBounds x = new BurstBounds();
        Desk.steps(x, 4);
        x.bucket(1, 4);
        x.late(1, 4);
        return x;
    }

    /** "LATE (3): what BUCKET's gives, and what STEPS's gives (BUCKET's left out)" */
    private static void tellings() {
        int[] told = {40, 100041, 100072};
        int[] traces = {1, 2 * 31 + 1, ((3 * 31 + 2) * 31 + 1) * 31 + 1};
        for (int f = 0; f < 3; f++) {
            BurstBounds x = ofEachKind();
            due("telling of kind " + f, x.tell(f), told[f]);
            due("trace of kind " + f, x.trace(), traces[f]);
            due("no such stair", x.tell(3), UNKNOWN);
            due("no trace of that", x.trace(), traces[f]);
        }
    }

    /** "its number at TICK 10" */
    private static void tellingAtTick10() {
        BurstBounds x = new BurstBounds();
        int[] row = {0, 0, 0, 0, 0, 0, 0, 0, 1, 2, 4, 0};
        due("steps", x.tell(Desk.steps(x, row)), 3);
        due("late by 9", x.tell(x.late(9, 7)), 100014);
        due("late by 10", x.tell(x.late(10, 7)), 100000);
        due("late by 40", x.tell(x.late(40, 999)), 100000);
        due("nothing", x.tell(x.bucket(0, 0)), 100000);
        due("the greatest bucket", x.tell(x.bucket(9999, 999)), 119989);
        due("the greatest late one", x.tell(x.late(0, 999)), 119980);
        int most = x.bucket(9999, 999);
        for (int i = 0; i < 4; i++) {
            most = x.make(1, most, most);
        }
        due("the most", x.tell(most), 99999);
    }

    /** "DRAWN by a lent body (4): the STAIR's number; LATE ones have their own (5): 60." */
    private static void drawings() {
        BurstBounds x = new BurstBounds();
        int trace = 0;
        for (int f = 0; f < 24; f++) {
            due("no stair yet", x.draw(f), UNKNOWN);
            boolean isLate = f % 3 == 2;
            int number = isLate ? x.late(1, 1) : f % 3 == 1 ? x.bucket(1, 1) : Desk.steps(x, 1);
            due("drawn " + f, x.draw(number), isLate ? 60 : f);
            trace = 31 * trace + (isLate ? 5 : 4);
            due("trace of drawn " + f, x.trace(), trace);
        }
        due("stair 24", x.draw(24), UNKNOWN);
        due("stair -1", x.draw(-1), UNKNOWN);
        due("no trace of these", x.trace(), trace);
    }

    /** "of a kind: 0 STEPS; 1 BUCKET, a STEPS; 2 LATE, a BUCKET"; "Others (made from others) are STEPS." */
    private static void kinds() {
        BurstBounds x = ofEachKind();
        for (int what = 0; what < 5; what++) {
            x.make(what, 2, 2);
        }
        x.move(0, 2, 0);
        x.move(1, 2, 0);
        for (int f = 0; f < x.many(0); f++) {
            int kind = f < 3 ? f : 0;
            for (int as = -1; as <= 3; as++) {
                int due = as < 0 || as > 2 ? OUTSIDE : as <= kind ? 1 : CAST;
                due("stair " + f + " as " + as, x.as(f, as), due);
                due("stair " + f + " as " + as + " told", x.fault(), due == CAST ? 2 : 0);
            }
        }
        due("stair 10", x.as(10, 3), UNKNOWN);
        due("stair -1", x.as(-1, 0), UNKNOWN);
    }

    /** "TRACE (an int that wraps, 0 at first, becomes 31 times it and the number)" */
    private static void traceWraps() {
        BurstBounds x = ofEachKind();
        due("0 at first", x.trace(), 0);
        int trace = 0;
        boolean below = false;
        for (int i = 0; i < 60; i++) {
            x.draw(i % 3);
            trace = 31 * trace + (i % 3 == 2 ? 5 : 4);
            due("drawn " + i, x.trace(), trace);
            below |= trace < 0;
            x.tell(0);
            trace = 31 * trace + 1;
            due("told " + i, x.trace(), trace);
        }
        CHECK.holds("it came below 0", below);
    }

    /** Bodies leave their numbers in TRACE; no other call does. */
    private static void tracesThatAreLeft() {
        BurstBounds x = Scene.laid(Scene::busy);
        int trace = x.trace();
        for (String name : Calls.names()) {
            if (!name.equals("tell") && !name.equals("draw")) {
                Calls.make(x, name, new int[Calls.numbersOf(name)]);
                due("trace behind " + name, x.trace(), trace);
            }
        }
    }

    // ---- promise 35

    /** "The FAULT of the latest call that names one: 0: it came to none, or was refused (0 ahead of any)." */
    private static void faultsOfEachCall() {
        told("steps 0", 0, "steps", 0, 0, 0, 1);
        told("steps refused", 0, "steps", 4, 0, 0, 1);
        told("steps null", 1, "steps", 3, 0, 0, 1);
        told("steps cast", 2, "steps", 0, 1, 0, 1);
        told("steps index", 3, "steps", 0, 0, 6, 1);
        told("steps size", 4, "steps", 0, 0, 0, -1);
        told("text 0", 0, "text", 2, 2, 57, 2);
        told("text's first fault", 0, "text", 2, 2, 57, 3);
        told("text null", 1, "text", 3, 0, 0, 1);
        told("text cast", 2, "text", 0, 1, 0, 1);
        told("text index", 3, "text", 0, 0, 6, 1);
        told("text size", 4, "text", 0, 0, 0, -1);
        told("flow 0", 0, "flow", 0, 0, 0, 0, 1);
        told("flow refused", 0, "flow", 0, 0, 0, 3, 2);
        told("flow null", 1, "flow", 0, 3, 0, 0, 1);
        told("flow cast", 2, "flow", 0, 0, 1, 0, 1);
        told("flow index", 3, "flow", 0, 0, 0, 6, 1);
        told("flow size", 4, "flow", 0, 0, 0, 0, -1);
        told("see 0", 0, "see", 0, 0, 0, 1);
        told("see refused", 0, "see", 0, 0, 2, 1);
        told("see null", 1, "see", 3, 0, 0, 1);
        told("see cast", 2, "see", 0, 1, 0, 1);
        told("see index", 3, "see", 0, 0, 6, 1);
        told("see size", 4, "see", 0, 0, 0, -1);
        told("sheet 0", 0, "sheet", 0, 0, 1);
        told("sheet refused", 0, "sheet", 0, 0, 61);
        told("sheet size", 4, "sheet", 0, 0, -1);
        told("put 0", 0, "put", 0, 0, 1);
        told("put refused", 0, "put", 4, 0, 1);
        told("put null", 1, "put", 3, 0, 1);
        told("put index", 3, "put", 0, 6, 1);
        told("cell 0", 0, "cell", 0, 0, 0);
        told("cell refused", 0, "cell", 0, 0, 3);
        told("cell null", 1, "cell", 3, 0, 0);
        told("cell cast", 2, "cell", 0, 0, 1);
        told("cell index", 3, "cell", 0, 6, 0);
        told("copy 0", 0, "copy", 0, 0, 0, 1, 1);
        told("copy refused", 0, "copy", 4, 0, 0, 1, 1);
        told("copy null", 1, "copy", 3, 0, 0, 1, 1);
        told("copy cast", 2, "copy", 1, 0, 0, 1, 1);
        told("copy index", 3, "copy", 0, 0, 0, 1, 6);
        told("as 0", 0, "as", 0, 0);
        told("as refused", 0, "as", 0, 3);
        told("as cast", 2, "as", 0, 2);
    }

    /** Behind each other fault, so that a fault that stays would be seen. */
    private static void told(String what, int fault, String name, int... a) {
        for (int before = 0; before <= 4; before++) {
            BurstBounds x = Scene.laid(Scene::busy);
            faultIs(x, before);
            due(what + ": before", x.fault(), before);
            Calls.make(x, name, a);
            due(what + " behind " + before, x.fault(), fault);
            due(what + " again", x.fault(), fault);
        }
    }

    private static void faultIs(BurstBounds x, int fault) {
        switch (fault) {
            case 0:
                x.put(0, 0, 0);
                break;
            case 1:
                x.put(3, 0, 0);
                break;
            case 2:
                x.as(0, 2);
                break;
            case 3:
                x.put(0, 6, 0);
                break;
            default:
                x.sheet(3, 0, -1);
                break;
        }
    }

    /** "of the latest call that names one": other calls, fine or refused, leave it. */
    private static void faultsThatStay() {
        for (int fault = 0; fault <= 4; fault++) {
            for (String name : Calls.names()) {
                if (!Calls.namesFaults(name)) {
                    int[] fine = new int[Calls.numbersOf(name)];
                    int[] below = fine.clone();
                    java.util.Arrays.fill(below, -1);
                    BurstBounds x = Scene.laid(Scene::busy);
                    faultIs(x, fault);
                    CHECK.holds(name + " is fine", Calls.make(x, name, fine) >= 0);
                    due(name + " leaves " + fault, x.fault(), fault);
                    Calls.make(x, name, below);
                    due(name + " refused leaves " + fault, x.fault(), fault);
                }
            }
        }
    }

    // ---- promise 36

    /** "How many: 0 STAIRS, 1 FLOWS, 2 numbers SEEN, 3 NODES with a STAIR. OUTSIDE." */
    private static void counts() {
        BurstBounds x = new BurstBounds();
        for (int what = -1; what <= 4; what++) {
            due("many " + what + " of nothing", x.many(what), what < 0 || what > 3 ? OUTSIDE : 0);
        }
        BurstBounds full = Scene.laid(Scene::full);
        for (int v = 0; v < 6; v++) {
            full.serve(v, 0);
        }
        full.sheet(3, 0, 40);
        full.see(3, 0, 0, 40);
        int[] most = {24, 5, 40, 6};
        for (int what = 0; what < 4; what++) {
            due("many " + what + " at most", full.many(what), most[what]);
        }
        full.serve(5, NONE);
        due("a node less", full.many(3), 5);
        full.see(3, 0, 0, 1);
        due("one number", full.many(2), 1);
        due("many far above", full.many(MAX), OUTSIDE);
        due("many far below", full.many(MIN), OUTSIDE);
    }
}
