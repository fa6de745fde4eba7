/** Calls that bring a new object to some state; with what is asked of it 512 at most. */
interface Scene {
    int NONE = -9;

    void lay(BurstBounds x);

    static BurstBounds laid(Scene scene) {
        BurstBounds x = new BurstBounds();
        scene.lay(x);
        return x;
    }

    /** Nothing but a fault: NULL. */
    static void empty(BurstBounds x) {
        x.put(0, 0, 0);
    }

    /**
     * STAIRS 0: b5r3, 1: b9r2, 2: l2r20, 3: l4r15, 4: STEPS 4 0 9. FLOW 0 of STAIR 0 over NODES 0, 1,
     * FLOW 1 of STAIR 1 over NODE 1; NODES 0, 1, 5 are SERVED by 2, 3, 2. Seven numbers are SEEN.
     * SHEETS 0: six bytes, 1: five shorts, 2: sixty ints, 3: nothing. TRACE is not 0, fault() is CAST.
     */
    static void busy(BurstBounds x) {
        unseen(x);
        Desk.see(x, 4, 0, 9, 0, 0, 20, 1);
        x.lose(3);
        x.as(0, 2);
    }

    /** A busy one in which nothing is SEEN. */
    static void unseen(BurstBounds x) {
        x.bucket(5, 3);
        x.bucket(9, 2);
        x.late(2, 20);
        x.late(4, 15);
        Desk.steps(x, 4, 0, 9);
        x.serve(0, 2);
        x.serve(1, 3);
        x.serve(5, 2);
        Desk.flow(x, 0, 0, 1);
        Desk.flow(x, 1, 1);
        x.tell(0);
        x.draw(2);
        Desk.row(x, 0, 0, 0, 6, -1, 2, 2, 3);
        Desk.row(x, 1, 1, 1, 1000, -1, 5, 999);
        x.sheet(2, 2, 60);
        x.put(2, 57, 'r');
        x.put(2, 58, '5');
        x.put(2, 59, 'x');
        x.lose(3);
        x.as(0, 2);
    }

    /** A busy one with 24 STAIRS and 5 FLOWS. */
    static void full(BurstBounds x) {
        busy(x);
        for (int f = 5; f < 24; f++) {
            x.bucket(f, 1);
        }
        for (int w = 2; w < 5; w++) {
            x.flow(0, 0, 0, 0, 1);
        }
        x.as(0, 2);
    }

    /** A busy one in which NODE 1 has no STAIR. */
    static void unserved(BurstBounds x) {
        busy(x);
        x.serve(1, NONE);
    }

    /** A busy one with a FLOW from NODE 1 to NODE 0. */
    static void ring(BurstBounds x) {
        busy(x);
        x.put(0, 1, 1);
        x.copy(0, 0, 0, 2, 1);
        x.flow(0, 0, 0, 1, 2);
        x.as(0, 2);
    }

    /** A busy one with a FLOW over NODE 4, where nothing is ever SERVED. */
    static void endless(BurstBounds x) {
        busy(x);
        x.serve(4, x.late(40, 0));
        x.put(0, 0, 4);
        x.flow(0, 0, 0, 0, 1);
        x.as(0, 2);
    }

    /** A busy one that goes by FIRST COME. */
    static void firstCome(BurstBounds x) {
        busy(x);
        x.rule(2);
    }
}
