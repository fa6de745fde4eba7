/** Promises 12 to 20: nodes and flows. */
public final class NetworkTest {
    private static final int UNKNOWN = -1, OUTSIDE = -2, STATE = -3, FULL = -4, NONE = -9;
    private static final int NULL = -11, CAST = -12, INDEX = -13, SIZE = -14;
    private static final int MIN = Integer.MIN_VALUE, MAX = Integer.MAX_VALUE;
    private static final int RANKS = 0, ANYHOW = 1, FIRST_COME = 2;

    private static final Check CHECK = new Check("NetworkTest");

    public static void main(String[] args) {
        promise12();
        promise13();
        promise13Wrong();
        promise14();
        promise15();
        promise16();
        promise17();
        promise17State();
        promise18();
        promise18Wrong();
        promise19();
        promise20();
        workedOutAnew();
        fullNetwork(RANKS);
        fullNetwork(ANYHOW);
        fullNetwork(FIRST_COME);
        CHECK.end();
    }

    private static void due(String what, long got, long want) {
        CHECK.due(what, got, want);
    }

    /** STAIRS 0: b5r3, 1: b9r2, 2: l2r20, 3: l4r15; FLOW 0 over NODES 0, 1 and FLOW 1 over 1. */
    private static BurstBounds two() {
        BurstBounds x = new BurstBounds();
        x.bucket(5, 3);
        x.bucket(9, 2);
        x.late(2, 20);
        x.late(4, 15);
        x.serve(0, 2);
        x.serve(1, 3);
        Desk.flow(x, 0, 0, 1);
        Desk.flow(x, 1, 1);
        return x;
    }

    private static void promise12() {
        BurstBounds x = new BurstBounds();
        x.bucket(1, 1);
        x.bucket(2, 2);
        due("12 first", x.serve(0, 0), NONE);
        due("12 another", x.serve(0, 1), 0);
        due("12 again", x.serve(0, 1), 1);
        due("12 last node", x.serve(5, 0), NONE);
        due("12 many", x.many(3), 2);
        due("12 none", x.serve(0, NONE), 1);
        due("12 none again", x.serve(0, NONE), NONE);
        due("12 many less", x.many(3), 1);
        due("12 node above", x.serve(6, 0), UNKNOWN);
        due("12 node below", x.serve(-1, 0), UNKNOWN);
        due("12 node none", x.serve(NONE, NONE), UNKNOWN);
        due("12 stair above", x.serve(5, 2), UNKNOWN);
        due("12 stair below", x.serve(5, -1), UNKNOWN);
        due("12 refused changes nothing", x.serve(5, 1), 0);
        due("12 no fault call", x.fault(), 0);
    }

    private static void promise13() {
        BurstBounds x = new BurstBounds();
        x.bucket(1, 1);
        Desk.row(x, 0, 0, 9, 5, 0, 3, 2, 9);
        due("13 bytes", x.flow(0, 0, 0, 1, 4), 0);
        due("13 how many nodes", x.ofFlow(0, 1), 4);
        due("13 the first", x.ofFlow(0, 10), 5);
        due("13 the last", x.ofFlow(0, 13), 2);
        Desk.row(x, 1, 1, 4);
        due("13 shorts", x.flow(0, 1, 1, 0, 1), 1);
        due("13 ints", Desk.flow(x, 0, 1, 2), 2);
        due("13 many", x.many(1), 3);
        due("13 no fault", x.fault(), 0);
        due("13 the fourth", Desk.flow(x, 0, 1, 2), 3);
        due("13 the fifth", Desk.flow(x, 0, 1, 2), 4);
        due("13 twice ahead of full", Desk.flow(x, 0, 1, 1), STATE);
        due("13 full", Desk.flow(x, 0, 1, 2), FULL);
        due("13 full told", x.fault(), 0);
        due("13 many full", x.many(1), 5);
        Desk.row(x, 0, 0, 1, 1, 1, 1, 1, 1);
        due("13 the way stays as it was", x.ofFlow(0, 10), 5);
    }

    private static void promise13Wrong() {
        BurstBounds x = new BurstBounds();
        due("13 stair ahead of sheet", x.flow(0, 4, 3, -1, -1), UNKNOWN);
        x.bucket(1, 1);
        due("13 stair", x.flow(1, 0, 3, -1, -1), UNKNOWN);
        due("13 stair none", x.flow(NONE, 0, 0, 0, 1), UNKNOWN);
        due("13 sheet", x.flow(0, 4, 3, -1, -1), UNKNOWN);
        due("13 sheet below", x.flow(0, -1, 0, 0, 1), UNKNOWN);
        due("13 lane", x.flow(0, 0, 3, -1, -1), OUTSIDE);
        due("13 null", x.flow(0, 0, 0, -1, -1), NULL);
        due("13 null told", x.fault(), 1);
        Desk.row(x, 0, 0, 0, 6, -1, 2, 2, 3);
        due("13 unknown: no fault", x.flow(1, 0, 0, 0, 1), UNKNOWN);
        due("13 unknown told", x.fault(), 0);
        due("13 cast", x.flow(0, 0, 2, -1, -1), CAST);
        due("13 cast told", x.fault(), 2);
        due("13 size", x.flow(0, 0, 0, -1, -1), SIZE);
        due("13 size told", x.fault(), 4);
        due("13 index below", x.flow(0, 0, 0, -1, 1), INDEX);
        due("13 index beyond", x.flow(0, 0, 0, 5, 2), INDEX);
        due("13 index told", x.fault(), 3);
        due("13 index ahead of outside", x.flow(0, 0, 0, 2, 5), INDEX);
        due("13 index of none", x.flow(0, 0, 0, 7, 0), INDEX);
        due("13 none", x.flow(0, 0, 0, 6, 0), OUTSIDE);
        due("13 five ahead of a node", x.flow(0, 0, 0, 0, 5), OUTSIDE);
        due("13 node above", x.flow(0, 0, 0, 0, 2), UNKNOWN);
        due("13 node below", x.flow(0, 0, 0, 2, 2), UNKNOWN);
        due("13 node ahead of twice", Desk.flow(x, 0, 1, 1, 6), UNKNOWN);
        due("13 twice", x.flow(0, 0, 0, 3, 2), STATE);
        due("13 twice, not side by side", Desk.flow(x, 0, 1, 2, 3, 1), STATE);
        due("13 nothing came", x.many(1), 0);
        due("13 good", x.flow(0, 0, 0, 4, 2), 0);
    }

    private static void promise14() {
        BurstBounds x = two();
        due("14 stair", x.ofFlow(0, 0), 0);
        due("14 stair of the second", x.ofFlow(1, 0), 1);
        due("14 how many", x.ofFlow(0, 1), 2);
        due("14 how many of the second", x.ofFlow(1, 1), 1);
        due("14 first", x.ofFlow(0, 10), 0);
        due("14 second", x.ofFlow(0, 11), 1);
        due("14 of the second", x.ofFlow(1, 10), 1);
        due("14 beyond the way", x.ofFlow(0, 12), OUTSIDE);
        due("14 beyond its way", x.ofFlow(1, 11), OUTSIDE);
        due("14 two", x.ofFlow(0, 2), OUTSIDE);
        due("14 nine", x.ofFlow(0, 9), OUTSIDE);
        due("14 below", x.ofFlow(0, -1), OUTSIDE);
        due("14 far below", x.ofFlow(0, MIN), OUTSIDE);
        due("14 far above", x.ofFlow(0, MAX), OUTSIDE);
        due("14 unknown", x.ofFlow(2, 2), UNKNOWN);
        due("14 unknown below", x.ofFlow(-1, 0), UNKNOWN);
    }

    private static void promise15() {
        BurstBounds x = new BurstBounds();
        due("15 ranks at first", x.rule(ANYHOW), RANKS);
        due("15 anyhow", x.rule(FIRST_COME), ANYHOW);
        due("15 above", x.rule(3), OUTSIDE);
        due("15 below", x.rule(-1), OUTSIDE);
        due("15 first come", x.rule(RANKS), FIRST_COME);
        due("15 ranks", x.rule(RANKS), RANKS);
    }

    private static void promise16() {
        BurstBounds x = new BurstBounds();
        x.bucket(1, 1);
        due("16 no flows", x.ring(), 0);
        Desk.flow(x, 0, 0, 1, 2);
        due("16 one way", x.ring(), 0);
        Desk.flow(x, 0, 0, 2);
        due("16 two ways to one", x.ring(), 0);
        Desk.flow(x, 0, 2, 5, 4);
        due("16 a longer way", x.ring(), 0);
        Desk.flow(x, 0, 4, 3);
        due("16 nearly round", x.ring(), 0);
        Desk.flow(x, 0, 3, 1);
        due("16 round 1 2 5 4 3", x.ring(), 1);
        BurstBounds y = new BurstBounds();
        y.bucket(1, 1);
        Desk.flow(y, 0, 5, 4);
        Desk.flow(y, 0, 4, 5);
        due("16 round two", y.ring(), 1);
        BurstBounds z = new BurstBounds();
        z.bucket(1, 1);
        Desk.flow(z, 0, 5, 4, 3, 2);
        Desk.flow(z, 0, 2, 1, 0);
        due("16 down without a ring", z.ring(), 0);
        BurstBounds u = new BurstBounds();
        u.bucket(1, 1);
        Desk.flow(u, 0, 0, 1);
        Desk.flow(u, 0, 2, 0);
        Desk.flow(u, 0, 1, 2);
        due("16 a ring of three ways", u.ring(), 1);
    }

    private static void promise17() {
        BurstBounds x = two();
        due("17 ranks 0 0", x.latest(0, 0), 2);
        due("17 ranks 0 1", x.latest(0, 1), 4);
        due("17 ranks 1 0", x.latest(1, 0), 6);
        x.rule(ANYHOW);
        due("17 anyhow 0 0", x.latest(0, 0), 2);
        due("17 anyhow 0 1", x.latest(0, 1), 6);
        due("17 anyhow 1 0", x.latest(1, 0), 6);
        x.rule(FIRST_COME);
        due("17 first come 0 0", x.latest(0, 0), 2);
        due("17 first come 0 1", x.latest(0, 1), 5);
        due("17 first come 1 0", x.latest(1, 0), 5);
        due("17 k beyond", x.latest(0, 2), UNKNOWN);
        due("17 k below", x.latest(0, -1), UNKNOWN);
        due("17 flow", x.latest(2, 0), UNKNOWN);
        due("17 flow below", x.latest(-1, 0), UNKNOWN);
        due("17 far", x.latest(0, MAX), UNKNOWN);
    }

    private static void promise17State() {
        BurstBounds x = two();
        x.serve(1, NONE);
        due("17 no stair elsewhere", x.latest(0, 0), STATE);
        due("17 unknown ahead of state", x.latest(0, 2), UNKNOWN);
        x.serve(1, 3);
        due("17 served again", x.latest(0, 0), 2);
        Desk.flow(x, 0, 1, 0);
        due("17 a ring", x.latest(1, 0), STATE);
        due("17 a ring in there", x.there(1, 0, 0, 1), STATE);
        due("17 a ring in heapAt", x.heapAt(0), STATE);
        due("17 a ring in bound", x.bound(1, 0), STATE);
        BurstBounds y = two();
        int never = y.late(40, 1);
        y.serve(4, never);
        due("17 no way there", y.latest(0, 0), 2);
        Desk.flow(y, 0, 4);
        due("17 another's wait is none", y.latest(0, 0), STATE);
        due("17 that wait", y.latest(2, 0), STATE);
        y.rule(FIRST_COME);
        due("17 another's wait is none, first come", y.latest(0, 0), STATE);
        y.serve(4, 2);
        due("17 it ends", y.latest(2, 0), 2);
    }

    private static void promise18() {
        BurstBounds x = two();
        int[] comes = {0, 8, 11, 14};
        int[] served = {0, 0, 0, 20};
        int[] goesOn = {0, 14, 17, 20};
        for (int t = 0; t < 4; t++) {
            due("18 comes " + t, x.there(0, 0, 0, t), comes[t]);
            due("18 has " + t, x.there(0, 0, 1, t), served[t]);
            due("18 goes on " + t, x.there(0, 0, 2, t), goesOn[t]);
            due("18 comes on " + t, x.there(0, 1, 0, t), goesOn[t]);
        }
        due("18 first rank has all", x.there(0, 1, 1, 10), 90);
        due("18 second rank has the rest", x.there(1, 0, 1, 10), 90 - 41);
        due("18 second rank has none at 6", x.there(1, 0, 1, 6), 1);
        x.rule(ANYHOW);
        due("18 anyhow has the rest", x.there(0, 1, 1, 10), 90 - 29);
        due("18 anyhow the second", x.there(1, 0, 1, 10), 90 - 41);
        x.rule(FIRST_COME);
        due("18 first come has served", x.there(0, 1, 1, 10), 90);
        due("18 first come has served, too", x.there(1, 0, 1, 10), 90);
        due("18 first come goes on", x.there(0, 0, 2, 1), 14);
        due("18 first come goes on at 0", x.there(0, 0, 2, 0), 0);
        due("18 first come goes on at 40", x.there(0, 0, 2, 40), 125);
        due("18 first come from the last", x.there(0, 1, 2, 1), 5 + 3 * 8);
        due("18 first come of the second", x.there(1, 0, 2, 1), 9 + 2 * 6);
    }

    private static void promise18Wrong() {
        BurstBounds x = two();
        due("18 flow", x.there(2, 0, 3, 41), UNKNOWN);
        due("18 k", x.there(1, 1, 3, 41), UNKNOWN);
        due("18 k below", x.there(1, -1, 0, 0), UNKNOWN);
        due("18 what above", x.there(0, 0, 3, 0), OUTSIDE);
        due("18 what below", x.there(0, 0, -1, 0), OUTSIDE);
        due("18 t above", x.there(0, 0, 0, 41), OUTSIDE);
        due("18 t below", x.there(0, 0, 0, -1), OUTSIDE);
        x.serve(0, NONE);
        due("18 outside ahead of state", x.there(0, 0, 0, 41), OUTSIDE);
        due("18 state", x.there(0, 0, 0, 0), STATE);
        due("18 state at a node with a stair", x.there(1, 0, 0, 0), STATE);
    }

    private static void promise19() {
        BurstBounds x = two();
        due("19 first node", x.heapAt(0), 11);
        due("19 second node", x.heapAt(1), (11 + 3 * 4) + (9 + 2 * 4));
        due("19 no stair", x.heapAt(2), STATE);
        x.serve(2, 0);
        due("19 nothing comes", x.heapAt(2), 0);
        due("19 the last node", x.heapAt(5), STATE);
        due("19 above", x.heapAt(6), UNKNOWN);
        due("19 below", x.heapAt(-1), UNKNOWN);
        x.serve(1, NONE);
        due("19 state elsewhere", x.heapAt(0), STATE);
        due("19 state there", x.heapAt(1), STATE);
        BurstBounds y = new BurstBounds();
        y.late(0, 0);
        y.serve(3, 0);
        due("19 no flows", y.heapAt(3), 0);
        y.rule(FIRST_COME);
        due("19 no flows, first come", y.heapAt(3), 0);
    }

    private static void promise20() {
        BurstBounds x = two();
        due("20 by nodes", x.bound(0, 0), 6);
        due("20 by nodes of the second", x.bound(1, 0), 6);
        due("20 at once", x.bound(0, 1), 6);
        due("20 at once of the second", x.bound(1, 1), 6);
        x.rule(ANYHOW);
        due("20 anyhow by nodes", x.bound(0, 0), 8);
        due("20 anyhow at once", x.bound(0, 1), 7);
        x.rule(FIRST_COME);
        due("20 first come by nodes", x.bound(0, 0), 7);
        due("20 first come at once", x.bound(0, 1), STATE);
        due("20 outside ahead of state", x.bound(0, 2), OUTSIDE);
        due("20 what below", x.bound(0, -1), OUTSIDE);
        due("20 flow", x.bound(2, 2), UNKNOWN);
        due("20 flow below", x.bound(-1, 0), UNKNOWN);
        x.rule(RANKS);
        x.serve(0, NONE);
        due("20 state", x.bound(1, 0), STATE);
        due("20 state at once", x.bound(1, 1), STATE);
        BurstBounds y = new BurstBounds();
        int little = y.move(0, y.bucket(1, 0), 19);
        int late = y.late(11, 1);
        y.serve(0, late);
        y.serve(1, late);
        Desk.flow(y, little, 0, 1);
        due("20 each ends", y.bound(0, 0), 0 + 3);
        due("20 at once ends", y.bound(0, 1), 3);
        int later = y.late(20, 1);
        y.serve(0, later);
        y.serve(1, later);
        due("20 each ends later", y.bound(0, 0), 1 + 20);
        due("20 at once none", y.bound(0, 1), NONE);
    }

    /** What was worked out once is not kept beyond a change. */
    private static void workedOutAnew() {
        BurstBounds x = two();
        due("anew ranks", x.latest(1, 0), 6);
        Desk.flow(x, 0, 1);
        due("anew with a lesser rank", x.latest(1, 0), 6);
        due("anew the lesser rank", x.latest(2, 0), 8);
        x.rule(ANYHOW);
        due("anew anyhow", x.latest(1, 0), 9);
        x.serve(1, 2);
        due("anew served by another", x.latest(1, 0), 4);
        x.serve(1, NONE);
        due("anew served by none", x.latest(1, 0), STATE);
    }

    /** Five FLOWS of b1r1 over the same four NODES, each of l1r100: each NODE adds a wait of 1. */
    private static void fullNetwork(int rule) {
        BurstBounds x = new BurstBounds();
        int own = x.bucket(1, 1);
        int served = x.late(1, 100);
        int[] way = {5, 3, 0, 1};
        x.rule(rule);
        for (int w = 0; w < 5; w++) {
            Desk.flow(x, own, way);
        }
        for (int v : way) {
            due("full not yet " + v, x.latest(4, 3), STATE);
            x.serve(v, served);
        }
        for (int w = 0; w < 5; w++) {
            String name = "full, rule " + rule + ", flow " + w;
            int others = rule == RANKS ? w : rule == ANYHOW ? 4 : 0;
            for (int k = 0; k < 4; k++) {
                due(name + " latest " + k, x.latest(w, k), 1);
                due(name + " comes " + k, x.there(w, k, 0, 9), 1 + k + 9);
                due(name + " has " + k, x.there(w, k, 1, 9), 800 - others * (1 + k + 9));
                due(name + " has none " + k, x.there(w, k, 1, 1), 0);
                due(name + " goes on " + k, x.there(w, k, 2, 9), 2 + k + 9);
            }
            due(name + " by nodes", x.bound(w, 0), 4);
            due(name + " at once", x.bound(w, 1), rule == FIRST_COME ? STATE : 4);
            due(name + " no fifth place", x.latest(w, 4), UNKNOWN);
            due(name + " no fifth node", x.ofFlow(w, 14), OUTSIDE);
        }
        for (int k = 0; k < 4; k++) {
            due("full heap " + k, x.heapAt(way[k]), 5 * (2 + k));
        }
        due("full no ring", x.ring(), 0);
    }
}
