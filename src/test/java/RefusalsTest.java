/**
 * REFUSALS and FAULTS of each call: "of several the first in the order in which a call's line tells
 * them", "They change nothing (but fault(), of a call that names FAULTS)". Each row breaks a reason and
 * as many of those behind it in its call's line as can be broken at once.
 */
public final class RefusalsTest {
    private static final int UNKNOWN = -1, OUTSIDE = -2, STATE = -3, FULL = -4, NONE = -9;
    private static final int NULL = -11, CAST = -12, INDEX = -13, SIZE = -14;
    private static final int MIN = Integer.MIN_VALUE, MAX = Integer.MAX_VALUE;

    private static final Check CHECK = new Check("RefusalsTest");
    private static final Twins TWINS = new Twins(CHECK);
    private static final int[] NO_SHEETS = {-1, 4, NONE, MIN, MAX};
    private static final int[] NO_LANES = {-1, 3, 4, MIN, MAX};
    private static final int[] NO_NODES = {-1, 6, NONE, MIN, MAX};
    private static final int[] NO_STAIRS_OF_5 = {-1, 5, NONE, 23, MIN, MAX};
    private static final int[] NO_STAIRS_OF_24 = {-1, 24, NONE, MIN, MAX};
    private static final int[] NO_TICKS = {-1, 41, MIN, MAX};

    public static void main(String[] args) {
        suchCells("steps");
        suchCells("text");
        suchCells("flow", 0);
        suchCells("see");
        steps();
        bucketAndLate();
        text();
        at();
        makeAndMove();
        pairs();
        serve();
        flow();
        ofFlow();
        rule();
        latestAndThere();
        heapAt();
        bound();
        see();
        keepsAndShape();
        burst();
        letIn();
        sheet();
        lose();
        put();
        cell();
        copy();
        tellAndDraw();
        as();
        many();
        onNothing();
        CHECK.end();
    }

    private static void busy(int reason, String name, int... a) {
        TWINS.refused(Scene::busy, reason, name, a);
    }

    private static void full(int reason, String name, int... a) {
        TWINS.refused(Scene::full, reason, name, a);
    }

    /** Also where there is FULL to be told behind it. */
    private static void both(int reason, String name, int... a) {
        busy(reason, name, a);
        full(reason, name, a);
    }

    private static int[] row(int[] ahead, int... rest) {
        int[] row = java.util.Arrays.copyOf(ahead, ahead.length + rest.length);
        System.arraycopy(rest, 0, row, ahead.length, rest.length);
        return row;
    }

    // ---- what is told alike of steps, text, flow, see

    /** "UNKNOWN; OUTSIDE: lane; CAST (nothing is no CAST); NULL; SIZE: n below 0; INDEX" */
    private static void suchCells(String name, int... ahead) {
        for (int sheet : NO_SHEETS) {
            both(UNKNOWN, name, row(ahead, sheet, 3, -1, -1));
            both(UNKNOWN, name, row(ahead, sheet, 0, 0, 1));
        }
        for (int lane : NO_LANES) {
            both(OUTSIDE, name, row(ahead, 0, lane, -1, -1));
            both(OUTSIDE, name, row(ahead, 3, lane, -1, -1));
            both(OUTSIDE, name, row(ahead, 2, lane, 0, 1));
        }
        for (int sheet = 0; sheet < 3; sheet++) {
            for (int lane = 0; lane < 3; lane++) {
                if (lane != sheet) {
                    both(CAST, name, row(ahead, sheet, lane, -1, -1));
                    both(CAST, name, row(ahead, sheet, lane, 0, 1));
                }
            }
        }
        for (int lane = 0; lane < 3; lane++) {
            both(NULL, name, row(ahead, 3, lane, -1, -1));
            both(NULL, name, row(ahead, 3, lane, 0, 1));
        }
        for (int n : new int[] {-1, -14, MIN}) {
            both(SIZE, name, row(ahead, 0, 0, -1, n));
            both(SIZE, name, row(ahead, 1, 1, 0, n));
            both(SIZE, name, row(ahead, 2, 2, 61, n));
        }
        noSuchPlaces(name, 0, 0, 6, ahead);
        noSuchPlaces(name, 1, 1, 5, ahead);
        noSuchPlaces(name, 2, 2, 60, ahead);
    }

    /** "INDEX (of cells from i on also where i is not 0 .. how many there are, if none of them is taken, too)" */
    private static void noSuchPlaces(String name, int sheet, int lane, int count, int[] ahead) {
        int[][] places = {{-1, 0}, {-1, 1}, {-1, count}, {-1, count + 1}, {MIN, 0}, {MIN, MAX}, {0, count + 1},
            {count - 1, 2}, {count, 1}, {count + 1, 0}, {count + 1, 1}, {1, count}, {MAX, 0}, {MAX, 1}, {MAX, MAX},
            {1, MAX}, {0, MAX}, {count, MAX}};
        for (int[] place : places) {
            both(INDEX, name, row(ahead, sheet, lane, place[0], place[1]));
        }
    }

    // ---- 1 stairs

    /** "OUTSIDE: n is not 1 .. 40, a number; FULL" */
    private static void steps() {
        both(OUTSIDE, "steps", 0, 0, 0, 0);
        both(OUTSIDE, "steps", 0, 0, 6, 0);
        both(OUTSIDE, "steps", 2, 2, 60, 0);
        both(OUTSIDE, "steps", 2, 2, 0, 41);
        both(OUTSIDE, "steps", 2, 2, 19, 41);
        both(OUTSIDE, "steps", 2, 2, 0, 60);
        both(OUTSIDE, "steps", 0, 0, 2, 1);
        both(OUTSIDE, "steps", 0, 0, 1, 3);
        both(OUTSIDE, "steps", 1, 1, 1, 1);
        both(OUTSIDE, "steps", 1, 1, 0, 2);
        both(OUTSIDE, "steps", 1, 1, 0, 5);
        both(OUTSIDE, "steps", 1, 1, 2, 3);
        full(FULL, "steps", 0, 0, 0, 1);
        full(FULL, "steps", 1, 1, 3, 2);
        full(FULL, "steps", 2, 2, 20, 40);
    }

    /** "OUTSIDE; FULL" */
    private static void bucketAndLate() {
        for (int number : new int[] {-1, MIN, MAX, -4}) {
            both(OUTSIDE, "bucket", number, 0);
            both(OUTSIDE, "bucket", 0, number);
            both(OUTSIDE, "late", number, 0);
            both(OUTSIDE, "late", 0, number);
        }
        both(OUTSIDE, "bucket", 10000, 0);
        both(OUTSIDE, "bucket", 10000, 999);
        both(OUTSIDE, "bucket", 0, 1000);
        both(OUTSIDE, "bucket", 9999, 1000);
        both(OUTSIDE, "late", 41, 0);
        both(OUTSIDE, "late", 41, 999);
        both(OUTSIDE, "late", 0, 1000);
        both(OUTSIDE, "late", 40, 1000);
        full(FULL, "bucket", 0, 0);
        full(FULL, "bucket", 9999, 999);
        full(FULL, "late", 0, 0);
        full(FULL, "late", 40, 999);
    }

    /** "-100 less it; FULL" */
    private static void text() {
        both(-100, "text", 0, 0, 0, 0);
        both(-100, "text", 0, 0, 6, 0);
        both(-100, "text", 2, 2, 60, 0);
        both(-100, "text", 0, 0, 0, 6);
        both(-100, "text", 2, 2, 0, 60);
        both(-100, "text", 2, 2, 58, 2);
        both(-101, "text", 2, 2, 57, 1);
        both(-102, "text", 2, 2, 57, 3);
        full(FULL, "text", 2, 2, 57, 2);
    }

    /** "UNKNOWN; OUTSIDE" */
    private static void at() {
        for (int f : NO_STAIRS_OF_5) {
            busy(UNKNOWN, "at", f, 0);
            busy(UNKNOWN, "at", f, 41);
            busy(UNKNOWN, "at", f, -1);
        }
        for (int f : NO_STAIRS_OF_24) {
            full(UNKNOWN, "at", f, 40);
        }
        for (int t : NO_TICKS) {
            busy(OUTSIDE, "at", 0, t);
            busy(OUTSIDE, "at", 4, t);
            full(OUTSIDE, "at", 23, t);
        }
    }

    // ---- 2 made from others

    /** "UNKNOWN; OUTSIDE; FULL" */
    private static void makeAndMove() {
        for (int f : NO_STAIRS_OF_5) {
            busy(UNKNOWN, "make", 5, f, 0);
            busy(UNKNOWN, "make", -1, 0, f);
            busy(UNKNOWN, "make", 0, f, f);
            busy(UNKNOWN, "make", 4, 4, f);
            busy(UNKNOWN, "move", 2, f, 41);
            busy(UNKNOWN, "move", 0, f, 0);
        }
        for (int f : NO_STAIRS_OF_24) {
            full(UNKNOWN, "make", 5, f, 23);
            full(UNKNOWN, "make", 2, 23, f);
            full(UNKNOWN, "move", 1, f, -1);
        }
        for (int what : new int[] {-1, 5, MIN, MAX}) {
            both(OUTSIDE, "make", what, 0, 1);
            both(OUTSIDE, "make", what, 4, 4);
        }
        for (int what : new int[] {-1, 2, MIN, MAX}) {
            both(OUTSIDE, "move", what, 0, 0);
            both(OUTSIDE, "move", what, 0, 41);
        }
        for (int d : NO_TICKS) {
            both(OUTSIDE, "move", 0, 0, d);
            both(OUTSIDE, "move", 1, 4, d);
        }
        for (int what = 0; what < 5; what++) {
            full(FULL, "make", what, 0, 23);
        }
        full(FULL, "move", 0, 0, 0);
        full(FULL, "move", 0, 23, 40);
        full(FULL, "move", 1, 0, 0);
        full(FULL, "move", 1, 23, 40);
    }

    /** delay, heap, within: "UNKNOWN" */
    private static void pairs() {
        for (String name : new String[] {"delay", "heap", "within"}) {
            for (int f : NO_STAIRS_OF_5) {
                busy(UNKNOWN, name, f, 0);
                busy(UNKNOWN, name, 4, f);
                busy(UNKNOWN, name, f, f);
            }
            for (int f : NO_STAIRS_OF_24) {
                full(UNKNOWN, name, f, 23);
                full(UNKNOWN, name, 23, f);
            }
        }
    }

    // ---- 3 nodes, flows

    /** "UNKNOWN: NODE, STAIR" */
    private static void serve() {
        for (int v : NO_NODES) {
            busy(UNKNOWN, "serve", v, 0);
            busy(UNKNOWN, "serve", v, NONE);
            busy(UNKNOWN, "serve", v, 5);
        }
        for (int f : new int[] {-1, 5, -8, -10, MIN, MAX}) {
            busy(UNKNOWN, "serve", 0, f);
            busy(UNKNOWN, "serve", 2, f);
            busy(UNKNOWN, "serve", 5, f);
        }
        full(UNKNOWN, "serve", 0, 24);
    }

    /** "UNKNOWN: STAIR, SHEET; ..; OUTSIDE: n is not 1 .. 4; UNKNOWN: a NODE; STATE: one comes twice; FULL" */
    private static void flow() {
        for (int f : NO_STAIRS_OF_5) {
            busy(UNKNOWN, "flow", f, 4, 3, -1, -1);
            busy(UNKNOWN, "flow", f, 0, 3, -1, -1);
            busy(UNKNOWN, "flow", f, 0, 1, -1, -1);
            busy(UNKNOWN, "flow", f, 3, 0, -1, -1);
            busy(UNKNOWN, "flow", f, 0, 0, -1, -1);
            busy(UNKNOWN, "flow", f, 0, 0, 0, 1);
        }
        full(UNKNOWN, "flow", 24, 0, 1, -1, -1);
        both(OUTSIDE, "flow", 0, 0, 0, 0, 0);
        both(OUTSIDE, "flow", 0, 0, 0, 6, 0);
        both(OUTSIDE, "flow", 0, 0, 0, 0, 5);
        both(OUTSIDE, "flow", 0, 2, 2, 0, 5);
        both(OUTSIDE, "flow", 0, 2, 2, 0, 60);
        both(UNKNOWN, "flow", 0, 0, 0, 1, 1);
        both(UNKNOWN, "flow", 0, 0, 0, 2, 1);
        both(UNKNOWN, "flow", 0, 0, 0, 0, 2);
        both(UNKNOWN, "flow", 0, 0, 0, 2, 3);
        both(UNKNOWN, "flow", 0, 2, 2, 54, 4);
        both(STATE, "flow", 0, 0, 0, 3, 2);
        both(STATE, "flow", 0, 0, 0, 3, 3);
        both(STATE, "flow", 0, 2, 2, 0, 4);
        full(FULL, "flow", 0, 0, 0, 0, 1);
        full(FULL, "flow", 23, 0, 0, 4, 2);
    }

    /** "UNKNOWN; OUTSIDE (a k beyond the WAY, too)" */
    private static void ofFlow() {
        for (int w : new int[] {-1, 2, 4, NONE, MIN, MAX}) {
            busy(UNKNOWN, "ofFlow", w, 0);
            busy(UNKNOWN, "ofFlow", w, 2);
        }
        full(UNKNOWN, "ofFlow", 5, 0);
        for (int what : new int[] {-1, 2, 9, 12, 13, 14, MIN, MAX, MIN + 9, MIN + 10}) {
            busy(OUTSIDE, "ofFlow", 0, what);
            busy(OUTSIDE, "ofFlow", 1, what);
            full(OUTSIDE, "ofFlow", 4, what);
        }
        busy(OUTSIDE, "ofFlow", 1, 11);
    }

    /** "OUTSIDE" */
    private static void rule() {
        for (Scene scene : new Scene[] {Scene::busy, Scene::firstCome}) {
            for (int v : new int[] {-1, 3, NONE, MIN, MAX}) {
                TWINS.refused(scene, OUTSIDE, "rule", v);
            }
        }
    }

    private static Scene[] statesOfNetwork() {
        return new Scene[] {Scene::unserved, Scene::ring, Scene::endless};
    }

    /** latest: "UNKNOWN: FLOW, k; STATE"; there: "UNKNOWN: FLOW, k; OUTSIDE; STATE" */
    private static void latestAndThere() {
        for (int w : new int[] {-1, 3, NONE, MIN, MAX}) {
            noSuchPlace(w, 0);
            noSuchPlace(w, -1);
        }
        for (int k : new int[] {-1, 2, 4, MIN, MAX}) {
            noSuchPlace(0, k);
            noSuchPlace(1, k);
        }
        noSuchPlace(1, 1);
        for (Scene scene : statesOfNetwork()) {
            for (int t : NO_TICKS) {
                TWINS.refused(scene, OUTSIDE, "there", 0, 0, 0, t);
                TWINS.refused(scene, OUTSIDE, "there", 0, 1, 2, t);
                busy(OUTSIDE, "there", 0, 1, 1, t);
            }
            for (int what : new int[] {-1, 3, MIN, MAX}) {
                TWINS.refused(scene, OUTSIDE, "there", 0, 0, what, 0);
                TWINS.refused(scene, OUTSIDE, "there", 1, 0, what, 41);
                busy(OUTSIDE, "there", 0, 1, what, 40);
            }
            TWINS.refused(scene, STATE, "latest", 0, 0);
            TWINS.refused(scene, STATE, "latest", 0, 1);
            TWINS.refused(scene, STATE, "latest", 1, 0);
            for (int what = 0; what < 3; what++) {
                TWINS.refused(scene, STATE, "there", 0, 0, what, 0);
                TWINS.refused(scene, STATE, "there", 1, 0, what, 40);
            }
        }
    }

    private static void noSuchPlace(int w, int k) {
        for (Scene scene : statesOfNetwork()) {
            TWINS.refused(scene, UNKNOWN, "latest", w, k);
            TWINS.refused(scene, UNKNOWN, "there", w, k, 3, 41);
        }
        busy(UNKNOWN, "latest", w, k);
        busy(UNKNOWN, "there", w, k, 0, 0);
        busy(UNKNOWN, "there", w, k, -1, -1);
    }

    /** "UNKNOWN; STATE (or it has no STAIR)" */
    private static void heapAt() {
        for (int v : NO_NODES) {
            busy(UNKNOWN, "heapAt", v);
            for (Scene scene : statesOfNetwork()) {
                TWINS.refused(scene, UNKNOWN, "heapAt", v);
            }
        }
        for (int v = 0; v < 6; v++) {
            for (Scene scene : statesOfNetwork()) {
                TWINS.refused(scene, STATE, "heapAt", v);
            }
        }
        for (int v = 2; v < 5; v++) {
            busy(STATE, "heapAt", v);
            TWINS.refused(Scene::firstCome, STATE, "heapAt", v);
        }
    }

    /** "UNKNOWN; OUTSIDE; STATE (AT ONCE: FIRST COME, too)" */
    private static void bound() {
        for (Scene scene : statesOfNetwork()) {
            for (int w : new int[] {-1, 3, NONE, MIN, MAX}) {
                TWINS.refused(scene, UNKNOWN, "bound", w, 0);
                TWINS.refused(scene, UNKNOWN, "bound", w, 2);
            }
            for (int what : new int[] {-1, 2, MIN, MAX}) {
                TWINS.refused(scene, OUTSIDE, "bound", 0, what);
                TWINS.refused(Scene::firstCome, OUTSIDE, "bound", 0, what);
                busy(OUTSIDE, "bound", 1, what);
            }
            for (int w = 0; w < 2; w++) {
                TWINS.refused(scene, STATE, "bound", w, 0);
                TWINS.refused(scene, STATE, "bound", w, 1);
            }
        }
        busy(UNKNOWN, "bound", 2, 2);
        full(UNKNOWN, "bound", 5, 0);
        TWINS.refused(Scene::firstCome, STATE, "bound", 0, 1);
        TWINS.refused(Scene::firstCome, STATE, "bound", 1, 1);
    }

    // ---- 4 seen

    /** "OUTSIDE: n is not 1 .. 40, a number" */
    private static void see() {
        both(OUTSIDE, "see", 0, 0, 0, 0);
        both(OUTSIDE, "see", 0, 0, 6, 0);
        both(OUTSIDE, "see", 2, 2, 0, 41);
        both(OUTSIDE, "see", 2, 2, 19, 41);
        both(OUTSIDE, "see", 2, 2, 0, 60);
        both(OUTSIDE, "see", 0, 0, 2, 1);
        both(OUTSIDE, "see", 0, 0, 1, 3);
        both(OUTSIDE, "see", 1, 1, 1, 1);
        both(OUTSIDE, "see", 1, 1, 0, 2);
        both(OUTSIDE, "see", 1, 1, 2, 3);
    }

    /** "UNKNOWN; OUTSIDE; STATE: nothing is SEEN" */
    private static void keepsAndShape() {
        for (String name : new String[] {"keeps", "shape"}) {
            for (int f : NO_STAIRS_OF_5) {
                busy(UNKNOWN, name, f, 2);
                busy(UNKNOWN, name, f, 0);
                TWINS.refused(Scene::unseen, UNKNOWN, name, f, 2);
                TWINS.refused(Scene::unseen, UNKNOWN, name, f, 0);
            }
            full(UNKNOWN, name, 24, 0);
            for (int what : new int[] {-1, 2, NONE, 99, 141, MIN, MAX, MIN + 100}) {
                busy(OUTSIDE, name, 0, what);
                TWINS.refused(Scene::unseen, OUTSIDE, name, 1, what);
            }
            TWINS.refused(Scene::unseen, STATE, name, 0, 0);
            TWINS.refused(Scene::unseen, STATE, name, 1, 1);
        }
        busy(OUTSIDE, "keeps", 0, 100);
        TWINS.refused(Scene::unseen, STATE, "shape", 0, 100);
        TWINS.refused(Scene::unseen, STATE, "shape", 0, 140);
    }

    /** "OUTSIDE; STATE: nothing is SEEN" */
    private static void burst() {
        for (int r : new int[] {-1, 1000, NONE, MIN, MAX}) {
            busy(OUTSIDE, "burst", r);
            TWINS.refused(Scene::unseen, OUTSIDE, "burst", r);
        }
        TWINS.refused(Scene::unseen, STATE, "burst", 0);
        TWINS.refused(Scene::unseen, STATE, "burst", 999);
    }

    /** "UNKNOWN; OUTSIDE: d is not 0 .. 40" */
    private static void letIn() {
        for (int f : NO_STAIRS_OF_5) {
            busy(UNKNOWN, "letIn", f, 0, 41);
            busy(UNKNOWN, "letIn", 0, f, -1);
            busy(UNKNOWN, "letIn", f, f, 0);
        }
        full(UNKNOWN, "letIn", 24, 0, 0);
        full(UNKNOWN, "letIn", 23, 24, 0);
        for (int d : NO_TICKS) {
            busy(OUTSIDE, "letIn", 0, 1, d);
            busy(OUTSIDE, "letIn", 4, 4, d);
        }
    }

    // ---- 5 sheets, parts

    /** "UNKNOWN; OUTSIDE: lane, n above 60; SIZE" */
    private static void sheet() {
        for (int k : NO_SHEETS) {
            busy(UNKNOWN, "sheet", k, 3, 61);
            busy(UNKNOWN, "sheet", k, 0, -1);
            busy(UNKNOWN, "sheet", k, 0, 1);
        }
        for (int k = 0; k < 4; k++) {
            for (int lane : NO_LANES) {
                busy(OUTSIDE, "sheet", k, lane, -1);
                busy(OUTSIDE, "sheet", k, lane, 61);
                busy(OUTSIDE, "sheet", k, lane, 3);
            }
            for (int n : new int[] {61, 62, MAX}) {
                busy(OUTSIDE, "sheet", k, 0, n);
                busy(OUTSIDE, "sheet", k, 2, n);
            }
            for (int n : new int[] {-1, -14, MIN}) {
                busy(SIZE, "sheet", k, 0, n);
                busy(SIZE, "sheet", k, 2, n);
            }
        }
    }

    /** "UNKNOWN" */
    private static void lose() {
        for (int k : NO_SHEETS) {
            busy(UNKNOWN, "lose", k);
        }
    }

    /** "UNKNOWN; NULL; INDEX" */
    private static void put() {
        for (int k : NO_SHEETS) {
            busy(UNKNOWN, "put", k, -1, 9);
            busy(UNKNOWN, "put", k, 0, 9);
        }
        for (int i : new int[] {-1, 0, 59, 60, MIN, MAX}) {
            busy(NULL, "put", 3, i, 9);
        }
        int[] counts = {6, 5, 60};
        for (int k = 0; k < 3; k++) {
            for (int i : new int[] {-1, counts[k], counts[k] + 1, MIN, MAX}) {
                busy(INDEX, "put", k, i, 9);
            }
        }
    }

    /** "LOST: UNKNOWN, OUTSIDE: lane; FAULTS CAST (nothing is no CAST), NULL, INDEX" */
    private static void cell() {
        for (int k : NO_SHEETS) {
            busy(UNKNOWN, "cell", k, -1, 3);
            busy(UNKNOWN, "cell", k, 0, 0);
        }
        for (int lane : NO_LANES) {
            busy(OUTSIDE, "cell", 0, -1, lane);
            busy(OUTSIDE, "cell", 3, -1, lane);
            busy(OUTSIDE, "cell", 2, 0, lane);
        }
        int[] counts = {6, 5, 60};
        for (int k = 0; k < 3; k++) {
            for (int lane = 0; lane < 3; lane++) {
                if (lane != k) {
                    busy(CAST, "cell", k, -1, lane);
                    busy(CAST, "cell", k, 0, lane);
                }
            }
            busy(NULL, "cell", 3, -1, k);
            busy(NULL, "cell", 3, 0, k);
            for (int i : new int[] {-1, counts[k], counts[k] + 1, MIN, MAX}) {
                busy(INDEX, "cell", k, i, k);
            }
        }
    }

    /** "UNKNOWN; FAULTS NULL (the first, the other), CAST (unlike LANES), INDEX: i, j, n below 0 or beyond" */
    private static void copy() {
        for (int k : NO_SHEETS) {
            busy(UNKNOWN, "copy", k, -1, 3, -1, -1);
            busy(UNKNOWN, "copy", 3, -1, k, -1, -1);
            busy(UNKNOWN, "copy", k, 0, 0, 0, 1);
            busy(UNKNOWN, "copy", 0, 0, k, 0, 1);
            busy(UNKNOWN, "copy", k, 0, k, 0, 0);
        }
        for (int k = 0; k < 3; k++) {
            busy(NULL, "copy", 3, -1, k, -1, -1);
            busy(NULL, "copy", k, -1, 3, -1, -1);
            busy(NULL, "copy", 3, 0, k, 0, 0);
            busy(NULL, "copy", k, 0, 3, 0, 0);
            for (int other = 0; other < 3; other++) {
                if (other != k) {
                    busy(CAST, "copy", k, -1, other, -1, -1);
                    busy(CAST, "copy", k, 0, other, 0, 0);
                }
            }
        }
        busy(NULL, "copy", 3, 0, 3, 0, 0);
        for (int wrong : new int[] {-1, 7, MIN, MAX}) {
            busy(INDEX, "copy", 0, wrong, 0, 0, 0);
            busy(INDEX, "copy", 0, 0, 0, wrong, 0);
            busy(INDEX, "copy", 0, 0, 0, 0, wrong);
        }
        busy(INDEX, "copy", 0, 5, 0, 0, 2);
        busy(INDEX, "copy", 0, 6, 0, 0, 1);
        busy(INDEX, "copy", 0, 0, 0, 5, 2);
        busy(INDEX, "copy", 0, 0, 0, 6, 1);
        busy(INDEX, "copy", 0, 1, 0, 1, MAX);
        busy(INDEX, "copy", 0, MAX, 0, MAX, MAX);
        busy(INDEX, "copy", 2, 30, 2, 31, 30);
        busy(INDEX, "copy", 2, 31, 2, 30, 30);
    }

    /** "UNKNOWN" */
    private static void tellAndDraw() {
        for (String name : new String[] {"tell", "draw"}) {
            for (int f : NO_STAIRS_OF_5) {
                busy(UNKNOWN, name, f);
            }
            for (int f : NO_STAIRS_OF_24) {
                full(UNKNOWN, name, f);
            }
        }
    }

    /** "UNKNOWN; OUTSIDE; CAST: it is none" */
    private static void as() {
        for (int f : NO_STAIRS_OF_5) {
            busy(UNKNOWN, "as", f, 3);
            busy(UNKNOWN, "as", f, 2);
        }
        full(UNKNOWN, "as", 24, 0);
        for (int kind : new int[] {-1, 3, MIN, MAX}) {
            for (int f = 0; f < 5; f++) {
                busy(OUTSIDE, "as", f, kind);
            }
        }
        busy(CAST, "as", 0, 2);
        busy(CAST, "as", 4, 1);
        busy(CAST, "as", 4, 2);
    }

    /** "OUTSIDE" */
    private static void many() {
        for (int what : new int[] {-1, 4, NONE, MIN, MAX}) {
            both(OUTSIDE, "many", what);
        }
    }

    /** "No STAIRS, FLOWS, SHEETS", and nothing is SEEN: what a new object refuses. */
    private static void onNothing() {
        Scene empty = Scene::empty;
        for (int number = 0; number < 2; number++) {
            TWINS.refused(empty, UNKNOWN, "at", number, 0);
            TWINS.refused(empty, UNKNOWN, "make", 0, number, number);
            TWINS.refused(empty, UNKNOWN, "move", 0, number, 0);
            TWINS.refused(empty, UNKNOWN, "delay", number, number);
            TWINS.refused(empty, UNKNOWN, "heap", number, number);
            TWINS.refused(empty, UNKNOWN, "within", number, number);
            TWINS.refused(empty, UNKNOWN, "serve", 0, number);
            TWINS.refused(empty, UNKNOWN, "flow", number, 0, 0, 0, 1);
            TWINS.refused(empty, UNKNOWN, "ofFlow", number, 0);
            TWINS.refused(empty, UNKNOWN, "latest", number, 0);
            TWINS.refused(empty, UNKNOWN, "there", number, 0, 0, 0);
            TWINS.refused(empty, UNKNOWN, "bound", number, 0);
            TWINS.refused(empty, UNKNOWN, "keeps", number, 0);
            TWINS.refused(empty, UNKNOWN, "shape", number, 0);
            TWINS.refused(empty, UNKNOWN, "letIn", number, number, 0);
            TWINS.refused(empty, UNKNOWN, "tell", number);
            TWINS.refused(empty, UNKNOWN, "draw", number);
            TWINS.refused(empty, UNKNOWN, "as", number, 0);
        }
        for (int sheet = 0; sheet < 4; sheet++) {
            TWINS.refused(empty, NULL, "steps", sheet, 0, 0, 1);
            TWINS.refused(empty, NULL, "text", sheet, 1, 0, 1);
            TWINS.refused(empty, NULL, "see", sheet, 2, 0, 1);
            TWINS.refused(empty, NULL, "put", sheet, 0, 1);
            TWINS.refused(empty, NULL, "cell", sheet, 0, 0);
            TWINS.refused(empty, NULL, "copy", sheet, 0, sheet, 0, 0);
        }
        for (int v = 0; v < 6; v++) {
            TWINS.refused(empty, STATE, "heapAt", v);
        }
        TWINS.refused(empty, STATE, "burst", 0);
    }
}
