/** The boundary cases of promises 12 to 20, sentence by sentence. */
public final class NetworkEdgesTest {
    private static final int UNKNOWN = -1, OUTSIDE = -2, STATE = -3, FULL = -4, NONE = -9;
    private static final int RANKS = 0, ANYHOW = 1, FIRST_COME = 2;

    private static final Check CHECK = new Check("NetworkEdgesTest");

    public static void main(String[] args) {
        nodes();
        stairsThatServe();
        lengthsOfWays();
        nodesOfWays();
        twiceOnAWay();
        fiveEver();
        sameWays();
        whatOfAFlow();
        rules();
        noRings();
        rings();
        ringsAreRefused();
        nodesWithoutAStair();
        waitsWithoutAnEnd();
        waitsThatOnlySomeRulesEnd();
        ticksThatWait();
        placesOfAWay();
        ticksOfThere();
        firstComeHasAll();
        ranksOfFlows();
        nothingIsLeft();
        goesOnAtTheEnds();
        heaps();
        sumsAreCut();
        boundsOfOneNode();
        atOnceWithoutAnEnd();
        nodesInAnyOrder();
        lessThanBefore();
        CHECK.end();
    }

    private static void due(String what, long got, long want) {
        CHECK.due(what, got, want);
    }

    /** STAIR 0: b1r1, 1: l1r100, SERVED at all NODES. */
    private static BurstBounds served() {
        BurstBounds x = new BurstBounds();
        x.bucket(1, 1);
        x.late(1, 100);
        for (int v = 0; v < 6; v++) {
            x.serve(v, 1);
        }
        return x;
    }

    // ---- promise 12

    /** "NODES 0 .. 5, each with a STAIR that is surely SERVED there, or none (at first)." */
    private static void nodes() {
        BurstBounds x = new BurstBounds();
        x.bucket(1, 1);
        due("node -1", x.serve(-1, 0), UNKNOWN);
        due("node 6", x.serve(6, 0), UNKNOWN);
        for (int v = 0; v < 6; v++) {
            due("how many before " + v, x.many(3), v);
            due("node " + v + " at first", x.serve(v, 0), NONE);
            due("node " + v + " then", x.serve(v, 0), 0);
        }
        due("all nodes", x.many(3), 6);
        for (int v = 0; v < 6; v++) {
            due("node " + v + " gets none", x.serve(v, NONE), 0);
            due("node " + v + " has none", x.serve(v, NONE), NONE);
            due("how many behind " + v, x.many(3), 5 - v);
        }
    }

    /** "A STAIR (NONE: none)"; "UNKNOWN: NODE, STAIR" */
    private static void stairsThatServe() {
        BurstBounds x = new BurstBounds();
        due("no stair 0 yet", x.serve(0, 0), UNKNOWN);
        due("none, too", x.serve(0, NONE), NONE);
        for (int f = 0; f < 24; f++) {
            due("stair " + f + " not yet", x.serve(3, f), UNKNOWN);
            x.bucket(f, 0);
            due("stair " + f, x.serve(3, f), f == 0 ? NONE : f - 1);
        }
        due("stair 24", x.serve(3, 24), UNKNOWN);
        due("stair -1", x.serve(3, -1), UNKNOWN);
        due("stair -8", x.serve(3, -8), UNKNOWN);
        due("stair -10", x.serve(3, -10), UNKNOWN);
        due("the last one stays", x.serve(3, 0), 23);
    }

    // ---- promise 13

    /** "a WAY: 1 to 4 unlike NODES"; "OUTSIDE: n is not 1 .. 4" */
    private static void lengthsOfWays() {
        for (int lane = 0; lane < 3; lane++) {
            BurstBounds x = new BurstBounds();
            x.bucket(1, 1);
            Desk.row(x, 0, lane, 0, 1, 2, 3, 4, 5);
            due("way of 0", x.flow(0, 0, lane, 0, 0), OUTSIDE);
            due("way of 0 at the end", x.flow(0, 0, lane, 6, 0), OUTSIDE);
            due("way of 5", x.flow(0, 0, lane, 0, 5), OUTSIDE);
            due("way of 6", x.flow(0, 0, lane, 0, 6), OUTSIDE);
            for (int n = 1; n <= 4; n++) {
                due("way of " + n, x.flow(0, 0, lane, 6 - n, n), n - 1);
                due("how long " + n, x.ofFlow(n - 1, 1), n);
                for (int k = 0; k < n; k++) {
                    due("place " + k + " of " + n, x.ofFlow(n - 1, 10 + k), 6 - n + k);
                }
                due("beyond " + n, x.ofFlow(n - 1, 10 + n), OUTSIDE);
            }
        }
    }

    /** "UNKNOWN: a NODE": at each place of the WAY, also ahead of one that comes twice. */
    private static void nodesOfWays() {
        for (int place = 0; place < 4; place++) {
            BurstBounds x = new BurstBounds();
            x.bucket(1, 1);
            int[] way = {1, 2, 3, 4};
            way[place] = 6;
            due("node 6 at " + place, Desk.flow(x, 0, way), UNKNOWN);
            way[place] = -1;
            due("node -1 at " + place, Desk.flow(x, 0, way), UNKNOWN);
            way[place] = 5;
            due("node 5 at " + place, Desk.flow(x, 0, way), 0);
            way[place] = 0;
            due("node 0 at " + place, Desk.flow(x, 0, way), 1);
            due("nodes that came", x.ofFlow(1, 10 + place), 0);
        }
        BurstBounds x = new BurstBounds();
        x.bucket(1, 1);
        due("twice ahead of no node", Desk.flow(x, 0, 1, 1, 6), UNKNOWN);
        due("twice ahead of no node below", Desk.flow(x, 0, 1, 1, -1), UNKNOWN);
        due("no node twice", Desk.flow(x, 0, 6, 6), UNKNOWN);
        due("one alone", Desk.flow(x, 0, 6), UNKNOWN);
    }

    /** "STATE: one comes twice": at any two places, the NODES 0 and 5, too */
    private static void twiceOnAWay() {
        for (int n = 2; n <= 4; n++) {
            for (int first = 0; first < n; first++) {
                for (int second = first + 1; second < n; second++) {
                    for (int node : new int[] {0, 5}) {
                        BurstBounds x = new BurstBounds();
                        x.bucket(1, 1);
                        int[] way = java.util.Arrays.copyOf(new int[] {1, 2, 3, 4}, n);
                        way[first] = node;
                        way[second] = node;
                        due("twice at " + first + ", " + second, Desk.flow(x, 0, way), STATE);
                        due("no flow came", x.many(1), 0);
                    }
                }
            }
        }
    }

    /** "FLOWS, 5 ever, numbered as they come"; "FULL" */
    private static void fiveEver() {
        BurstBounds x = new BurstBounds();
        x.bucket(1, 1);
        for (int w = 0; w < 5; w++) {
            due("flow " + w + " not yet", x.ofFlow(w, 0), UNKNOWN);
            due("refused outside", Desk.flow(x, 0), OUTSIDE);
            due("refused unknown", Desk.flow(x, 0, 6), UNKNOWN);
            due("refused state", Desk.flow(x, 0, 1, 1), STATE);
            due("how many flows", x.many(1), w);
            due("flow " + w, Desk.flow(x, 0, w), w);
        }
        due("full", Desk.flow(x, 0, 5), FULL);
        due("outside ahead of full", Desk.flow(x, 0), OUTSIDE);
        due("unknown ahead of full", Desk.flow(x, 0, 6), UNKNOWN);
        due("stair ahead of full", Desk.flow(x, 1, 5), UNKNOWN);
        due("state ahead of full", Desk.flow(x, 0, 1, 1), STATE);
        due("five flows", x.many(1), 5);
        due("the last stays", x.ofFlow(4, 10), 4);
        due("no sixth", x.ofFlow(5, 0), UNKNOWN);
    }

    /** FLOWS may be alike: "numbered as they come" */
    private static void sameWays() {
        BurstBounds x = served();
        for (int w = 0; w < 5; w++) {
            due("alike " + w, Desk.flow(x, 0, 2, 3), w);
        }
        due("the last of alike ones", x.there(4, 0, 1, 9), 800 - 4 * 10);
    }

    // ---- promises 14, 15

    /** "0 its STAIR, 1 how many NODES, 10 and k: the k-th"; "OUTSIDE (a k beyond the WAY, too)" */
    private static void whatOfAFlow() {
        BurstBounds x = new BurstBounds();
        for (int f = 0; f < 24; f++) {
            x.bucket(1, 1);
        }
        Desk.flow(x, 23, 5);
        Desk.flow(x, 0, 0, 1, 2, 3);
        due("the last stair", x.ofFlow(0, 0), 23);
        due("the first stair", x.ofFlow(1, 0), 0);
        for (int what = -2; what < 20; what++) {
            int one = what == 0 ? 23 : what == 1 ? 1 : what == 10 ? 5 : OUTSIDE;
            due("one: what " + what, x.ofFlow(0, what), one);
            int four = what == 0 ? 0 : what == 1 ? 4 : what >= 10 && what < 14 ? what - 10 : OUTSIDE;
            due("four: what " + what, x.ofFlow(1, what), four);
        }
        due("far above", x.ofFlow(1, Integer.MAX_VALUE), OUTSIDE);
        due("far below", x.ofFlow(1, Integer.MIN_VALUE + 9), OUTSIDE);
        due("flow -1", x.ofFlow(-1, 0), UNKNOWN);
        due("flow 2", x.ofFlow(2, 0), UNKNOWN);
        due("flow 3", x.ofFlow(3, 0), UNKNOWN);
        due("flow 2, what 2", x.ofFlow(2, 2), UNKNOWN);
    }

    /** "RULE: 0 RANKS .., 1 ANYHOW, 2 FIRST COME (0 at first)"; "what it was. OUTSIDE." */
    private static void rules() {
        BurstBounds x = new BurstBounds();
        int before = 0;
        for (int v : new int[] {0, 2, 2, 1, 1, 0, 2, 0}) {
            due("rule -1", x.rule(-1), OUTSIDE);
            due("rule 3", x.rule(3), OUTSIDE);
            due("rule " + v, x.rule(v), before);
            before = v;
        }
    }

    // ---- promise 16

    private static int ringOf(int[]... ways) {
        BurstBounds x = new BurstBounds();
        x.bucket(1, 1);
        for (int[] way : ways) {
            Desk.flow(x, 0, way);
        }
        return x.ring();
    }

    /** "A RING: NODES that come round so": ways that do not. */
    private static void noRings() {
        due("no flows", ringOf(), 0);
        due("one node", ringOf(new int[] {0}), 0);
        due("each node alone", ringOf(new int[] {0}, new int[] {0}, new int[] {5}, new int[] {5}), 0);
        due("one way", ringOf(new int[] {3, 1, 0, 2}), 0);
        due("the same way again", ringOf(new int[] {3, 1, 0, 2}, new int[] {3, 1, 0, 2}), 0);
        due("all six in a row", ringOf(new int[] {5, 4, 3, 2}, new int[] {2, 1, 0}), 0);
        due("all six the other way", ringOf(new int[] {0, 1, 2, 3}, new int[] {3, 4, 5}), 0);
        due("two ways to one node", ringOf(new int[] {0, 1, 3}, new int[] {0, 2, 3}, new int[] {0, 3}), 0);
        due("across", ringOf(new int[] {0, 1, 2}, new int[] {3, 1, 4}, new int[] {0, 4, 5, 2}), 0);
    }

    private static void rings() {
        due("of two", ringOf(new int[] {0, 1}, new int[] {1, 0}), 1);
        due("of the last two", ringOf(new int[] {4, 5}, new int[] {5, 4}), 1);
        due("of three", ringOf(new int[] {0, 1, 2}, new int[] {2, 0}), 1);
        due("of four", ringOf(new int[] {0, 1, 2, 3}, new int[] {3, 0}), 1);
        due("of five", ringOf(new int[] {1, 2, 3, 4}, new int[] {4, 5, 1}), 1);
        due("of six", ringOf(new int[] {0, 1, 2, 3}, new int[] {3, 4, 5, 0}), 1);
        due("of six, by five ways", ringOf(new int[] {5, 3}, new int[] {3, 1}, new int[] {1, 0, 2}, new int[] {2, 4},
                new int[] {4, 5}), 1);
        due("in the middle of ways", ringOf(new int[] {0, 1, 2, 3}, new int[] {4, 2, 1, 5}), 1);
        due("apart from other ways", ringOf(new int[] {0, 1}, new int[] {2, 3}, new int[] {3, 2}), 1);
        due("with a way to it", ringOf(new int[] {0, 1, 2}, new int[] {2, 1}), 1);
        due("with a way from it", ringOf(new int[] {0, 1}, new int[] {1, 0, 5, 4}), 1);
    }

    // ---- promise 17: "All is STATE, if there is a RING, a NODE on some WAY without a STAIR, or some LATEST is NONE."

    private static void allIsState(String what, BurstBounds x, int flows) {
        for (int rule = RANKS; rule <= FIRST_COME; rule++) {
            x.rule(rule);
            for (int w = 0; w < flows; w++) {
                due(what + ": latest " + w + ", rule " + rule, x.latest(w, 0), STATE);
                due(what + ": comes " + w + ", rule " + rule, x.there(w, 0, 0, 0), STATE);
                due(what + ": has " + w + ", rule " + rule, x.there(w, 0, 1, 40), STATE);
                due(what + ": goes on " + w + ", rule " + rule, x.there(w, 0, 2, 1), STATE);
                due(what + ": by nodes " + w + ", rule " + rule, x.bound(w, 0), STATE);
                due(what + ": at once " + w + ", rule " + rule, x.bound(w, 1), STATE);
            }
            for (int v = 0; v < 6; v++) {
                due(what + ": heap " + v + ", rule " + rule, x.heapAt(v), STATE);
            }
        }
        x.rule(RANKS);
    }

    private static void allIsFine(String what, BurstBounds x, int flows) {
        for (int rule = RANKS; rule <= FIRST_COME; rule++) {
            x.rule(rule);
            for (int w = 0; w < flows; w++) {
                CHECK.holds(what + ": latest " + w, x.latest(w, 0) >= 0);
                CHECK.holds(what + ": there " + w, x.there(w, 0, 2, 40) > 0);
                CHECK.holds(what + ": by nodes " + w, x.bound(w, 0) >= 0);
                CHECK.holds(what + ": at once " + w, x.bound(w, 1) >= 0 || rule == FIRST_COME);
            }
        }
        x.rule(RANKS);
    }

    private static void ringsAreRefused() {
        BurstBounds x = served();
        Desk.flow(x, 0, 0, 1);
        Desk.flow(x, 0, 5);
        allIsFine("no ring", x, 2);
        Desk.flow(x, 0, 1, 0);
        due("a ring", x.ring(), 1);
        allIsState("a ring", x, 3);
        due("a flow more comes all the same", Desk.flow(x, 0, 4), 3);
        due("its way", x.ofFlow(3, 10), 4);
        due("the ring stays", x.ring(), 1);
        due("served all the same", x.serve(0, NONE), 1);
    }

    private static void nodesWithoutAStair() {
        for (int v = 0; v < 4; v++) {
            BurstBounds x = served();
            x.serve(4, NONE);
            x.serve(5, NONE);
            Desk.flow(x, 0, 0, 1, 2, 3);
            Desk.flow(x, 0, 0);
            allIsFine("nodes on no way have none", x, 2);
            x.serve(v, NONE);
            allIsState("node " + v + " has none", x, 2);
            x.serve(v, 1);
            allIsFine("node " + v + " has one again", x, 2);
        }
    }

    private static void waitsWithoutAnEnd() {
        BurstBounds x = served();
        int never = x.late(40, 999);
        Desk.flow(x, 0, 0, 1);
        Desk.flow(x, 0, 5, 4);
        x.serve(3, never);
        allIsFine("no way to what is never served", x, 2);
        for (int v : new int[] {0, 1, 4, 5}) {
            x.serve(v, never);
            allIsState("never served at " + v, x, 2);
            x.serve(v, 1);
        }
        allIsFine("served again", x, 2);
    }

    /** What a lesser FLOW lacks under RANKS, an other one lacks ANYHOW; under FIRST COME all that COMES counts. */
    private static void waitsThatOnlySomeRulesEnd() {
        BurstBounds x = new BurstBounds();
        int much = x.late(0, 30);
        int little = x.bucket(1, 0);
        x.serve(0, x.late(1, 31));
        Desk.flow(x, little, 0);
        Desk.flow(x, much, 0);
        due("ranks: little first", x.latest(0, 0), 1);
        due("ranks: much has nearly all", x.latest(1, 0), 1);
        x.rule(ANYHOW);
        due("anyhow: little has what is left", x.latest(0, 0), 31);
        x.serve(0, x.late(1, 30));
        due("anyhow: nothing is left", x.latest(0, 0), STATE);
        due("anyhow: nothing is left, the other", x.latest(1, 0), STATE);
        x.rule(RANKS);
        due("ranks: one behind", x.latest(1, 0), 2);
        x.rule(FIRST_COME);
        due("first come: all of it", x.latest(0, 0), 2);
    }

    /** LATEST is a WAIT: what comes at TICK 20 waits, what comes at TICK 21 does not. */
    private static void ticksThatWait() {
        for (int rule = RANKS; rule <= FIRST_COME; rule++) {
            BurstBounds x = new BurstBounds();
            int none = x.late(40, 0);
            x.rule(rule);
            x.serve(0, none);
            Desk.flow(x, Desk.from(x, 21, 1), 0);
            due("TICK 21, rule " + rule, x.latest(0, 0), 0);
            due("TICK 21 by nodes, rule " + rule, x.bound(0, 0), 0);
            due("TICK 21 at once, rule " + rule, x.bound(0, 1), rule == FIRST_COME ? STATE : 0);
            x.serve(0, Desk.from(x, 40, 1));
            Desk.flow(x, Desk.from(x, 20, 1), 1);
            x.serve(1, none);
            due("TICK 20, rule " + rule, x.latest(1, 0), STATE);
            x.serve(1, Desk.from(x, 40, 1));
            due("TICK 20 till 40, rule " + rule, x.latest(1, 0), 20);
            due("TICK 20 till 40 by nodes, rule " + rule, x.bound(1, 0), 20);
            due("TICK 20 till 40 at once, rule " + rule, x.bound(1, 1), rule == FIRST_COME ? STATE : 20);
        }
    }

    /** "the k-th NODE of its WAY (k from 0 on). UNKNOWN: FLOW, k" */
    private static void placesOfAWay() {
        BurstBounds x = served();
        Desk.flow(x, 0, 3);
        Desk.flow(x, 0, 0, 1, 2, 4);
        int[] lengths = {1, 4};
        for (int w = 0; w < 2; w++) {
            for (int k = -1; k <= 5; k++) {
                boolean isThere = k >= 0 && k < lengths[w];
                due("flow " + w + " at " + k, x.latest(w, k), isThere ? 1 : UNKNOWN);
                due("flow " + w + " there " + k, x.there(w, k, 0, 0), isThere ? 0 : UNKNOWN);
            }
        }
        for (int w : new int[] {-1, 2, 3, 4, 5, Integer.MAX_VALUE, Integer.MIN_VALUE}) {
            due("flow " + w, x.latest(w, 0), UNKNOWN);
            due("flow " + w + " there", x.there(w, 0, 0, 0), UNKNOWN);
            due("flow " + w + " bound", x.bound(w, 0), UNKNOWN);
        }
    }

    // ---- promise 18

    /** "at a TICK: what COMES (what 0), what it HAS (1 ..), what GOES ON (2)" */
    private static void ticksOfThere() {
        BurstBounds x = served();
        Desk.flow(x, 0, 2);
        for (int t = 0; t <= 40; t++) {
            due("comes at " + t, x.there(0, 0, 0, t), t == 0 ? 0 : 1 + t);
            due("has at " + t, x.there(0, 0, 1, t), t == 0 ? 0 : 100 * (t - 1));
            due("goes on at " + t, x.there(0, 0, 2, t), t == 0 ? 0 : Math.min(2 + t, 41));
        }
        due("TICK -1", x.there(0, 0, 0, -1), OUTSIDE);
        due("TICK 41", x.there(0, 0, 0, 41), OUTSIDE);
        due("what -1", x.there(0, 0, -1, 0), OUTSIDE);
        due("what 3", x.there(0, 0, 3, 0), OUTSIDE);
    }

    /** "(1; FIRST COME: what is SERVED)": to each FLOW, whatever the others do */
    private static void firstComeHasAll() {
        BurstBounds x = served();
        for (int w = 0; w < 5; w++) {
            Desk.flow(x, 0, 2, 4);
        }
        x.rule(FIRST_COME);
        for (int w = 0; w < 5; w++) {
            due("flow " + w + " has", x.there(w, 1, 1, 40), 3900);
            due("flow " + w + " has at 1", x.there(w, 1, 1, 1), 0);
        }
    }

    /** "0 RANKS (a FLOW of a lesser number ahead), 1 ANYHOW": the first and the last of five */
    private static void ranksOfFlows() {
        BurstBounds x = served();
        for (int w = 0; w < 5; w++) {
            Desk.flow(x, 0, 2);
        }
        for (int w = 0; w < 5; w++) {
            x.rule(RANKS);
            due("ranks " + w, x.there(w, 0, 1, 9), 800 - 10 * w);
            x.rule(ANYHOW);
            due("anyhow " + w, x.there(w, 0, 1, 9), 760);
        }
        BurstBounds alone = served();
        Desk.flow(alone, 0, 2);
        Desk.flow(alone, 0, 3);
        for (int rule = RANKS; rule <= ANYHOW; rule++) {
            alone.rule(rule);
            due("others go elsewhere, rule " + rule, alone.there(0, 0, 1, 9), 800);
            due("others went elsewhere, rule " + rule, alone.there(1, 0, 1, 9), 800);
        }
    }

    /** HAS is LEFT: never below 0; what needs nothing waits for nothing. */
    private static void nothingIsLeft() {
        BurstBounds x = new BurstBounds();
        int much = x.bucket(9999, 0);
        int none = x.late(40, 0);
        x.serve(0, x.bucket(9999, 0));
        Desk.flow(x, much, 0);
        Desk.flow(x, none, 0);
        due("nothing is left", x.there(1, 0, 1, 40), 0);
        due("nothing waits", x.latest(1, 0), 0);
        due("nothing goes on", x.there(1, 0, 2, 40), 0);
        due("nothing waits by nodes", x.bound(1, 0), 0);
        due("nothing waits at once", x.bound(1, 1), 0);
        x.rule(ANYHOW);
        due("all is left anyhow", x.there(0, 0, 1, 1), 9999);
    }

    /** "GOES ON: what COMES, OUT of it what it HAS; FIRST COME: what COMES, AHEAD by LATEST." */
    private static void goesOnAtTheEnds() {
        BurstBounds x = new BurstBounds();
        x.serve(0, Desk.from(x, 40, 1));
        x.serve(1, x.late(0, 999));
        Desk.flow(x, x.bucket(1, 0), 0, 1);
        due("the longest wait", x.latest(0, 0), 39);
        due("goes on at 0", x.there(0, 0, 2, 0), 0);
        due("goes on at 1", x.there(0, 0, 2, 1), 1);
        x.rule(FIRST_COME);
        due("first come: the longest wait", x.latest(0, 0), 39);
        due("first come: goes on at 0", x.there(0, 0, 2, 0), 0);
        due("first come: goes on at 1", x.there(0, 0, 2, 1), 1);
        due("first come: goes on at 40", x.there(0, 0, 2, 40), 1);
        due("first come: comes at the next", x.there(0, 1, 0, 1), 1);
        due("first come: no wait there", x.latest(0, 1), 0);
    }

    // ---- promise 19

    /** "HEAP of all that COMES at a NODE in what is SERVED there. UNKNOWN; STATE (or it has no STAIR)." */
    private static void heaps() {
        for (int rule = RANKS; rule <= FIRST_COME; rule++) {
            BurstBounds x = served();
            x.rule(rule);
            for (int v = 0; v < 6; v++) {
                due("nothing comes at " + v, x.heapAt(v), 0);
            }
            Desk.flow(x, 0, 5, 0);
            x.serve(3, NONE);
            due("comes at 5", x.heapAt(5), 2);
            due("comes on at 0", x.heapAt(0), 3);
            due("nothing comes at 4", x.heapAt(4), 0);
            due("no stair at 3", x.heapAt(3), STATE);
            due("node -1", x.heapAt(-1), UNKNOWN);
            due("node 6", x.heapAt(6), UNKNOWN);
            x.serve(0, NONE);
            due("state at 5", x.heapAt(5), STATE);
            due("state at 4", x.heapAt(4), STATE);
            due("unknown ahead of state", x.heapAt(6), UNKNOWN);
        }
    }

    /** SUM: "99999 at most (what would be more is 99999)" */
    private static void sumsAreCut() {
        for (int rule = RANKS; rule <= FIRST_COME; rule++) {
            BurstBounds x = new BurstBounds();
            int most = x.bucket(9999, 999);
            for (int i = 0; i < 4; i++) {
                most = x.make(1, most, most);
            }
            x.rule(rule);
            x.serve(0, x.late(40, 0));
            int behind20 = x.move(0, most, 20);
            due("most at 40", x.at(behind20, 40), 99999);
            for (int w = 0; w < 5; w++) {
                Desk.flow(x, behind20, 0);
            }
            due("sum is cut, rule " + rule, x.heapAt(0), 99999);
            due("none waits, rule " + rule, x.latest(4, 0), 0);
        }
    }

    // ---- promise 20

    /** "BY NODES: the sum of its LATEST. AT ONCE ..: WAIT of its STAIR in all that it HAS": a WAY of one NODE */
    private static void boundsOfOneNode() {
        for (int rule = RANKS; rule <= ANYHOW; rule++) {
            BurstBounds x = served();
            Desk.flow(x, 0, 2);
            Desk.flow(x, 0, 2);
            x.serve(2, x.late(3, 4));
            x.rule(rule);
            for (int w = 0; w < 2; w++) {
                due("by nodes is its latest", x.bound(w, 0), x.latest(w, 0));
                due("at once is its latest", x.bound(w, 1), x.latest(w, 0));
            }
        }
        BurstBounds x = served();
        Desk.flow(x, 0, 2);
        due("what -1", x.bound(0, -1), OUTSIDE);
        due("what 2", x.bound(0, 2), OUTSIDE);
        due("flow 1", x.bound(1, 2), UNKNOWN);
        x.rule(FIRST_COME);
        due("first come by nodes", x.bound(0, 0), 1);
        due("first come at once", x.bound(0, 1), STATE);
        due("outside ahead of that", x.bound(0, 2), OUTSIDE);
    }

    /** "AT ONCE (1; NONE, too)": each NODE's wait ends, the WAY's does not till TICK 40 */
    private static void atOnceWithoutAnEnd() {
        for (int rule = RANKS; rule <= ANYHOW; rule++) {
            BurstBounds x = new BurstBounds();
            int one = x.bucket(1, 0);
            x.rule(rule);
            x.serve(0, x.late(20, 1));
            x.serve(1, x.late(19, 1));
            Desk.flow(x, one, 0, 1);
            due("till TICK 40", x.bound(0, 1), 39);
            due("till TICK 40 by nodes", x.bound(0, 0), 20 + 19);
            x.serve(1, x.late(20, 1));
            due("not till TICK 40", x.bound(0, 1), NONE);
            due("by nodes all the same", x.bound(0, 0), 20 + 20);
        }
    }

    /** "NODES are gone through so that each comes behind all that are ahead of it": against their numbers, too */
    private static void nodesInAnyOrder() {
        int[][] ways = {{0, 1, 2, 3}, {5, 4, 3, 2}, {3, 0, 5, 1}, {2, 5, 0, 4}};
        for (int[] way : ways) {
            for (int rule = RANKS; rule <= FIRST_COME; rule++) {
                BurstBounds x = served();
                x.rule(rule);
                Desk.flow(x, 0, way[3]);
                Desk.flow(x, 0, way);
                Desk.flow(x, 0, way[0], way[2]);
                for (int k = 0; k < 4; k++) {
                    due("comes at " + k, x.there(1, k, 0, 1), 2 + k);
                    due("latest at " + k, x.latest(1, k), 1);
                }
                due("comes at the last", x.heapAt(way[3]), 2 + 5);
                due("comes at the third", x.heapAt(way[2]), 4 + 3);
            }
        }
    }

    /** What was worked out once leaves nothing behind, where it becomes less by what is SERVED, or by the RULE. */
    private static void lessThanBefore() {
        for (int rule = RANKS; rule <= FIRST_COME; rule++) {
            BurstBounds x = served();
            int slow = x.late(9, 50);
            Desk.flow(x, 0, 2, 3);
            x.rule(rule);
            int[] stairs = {1, slow, 1};
            int[] waits = {1, 9, 1};
            for (int i = 0; i < stairs.length; i++) {
                String told = "rule " + rule + ", change " + i;
                x.serve(2, stairs[i]);
                due(told + ": latest", x.latest(0, 0), waits[i]);
                for (int t = 1; t <= 40; t++) {
                    due(told + ": goes on at " + t, x.there(0, 0, 2, t), Math.min(1 + t + waits[i], 41));
                    due(told + ": comes on at " + t, x.there(0, 1, 0, t), Math.min(1 + t + waits[i], 41));
                }
                due(told + ": heap at the next", x.heapAt(3), 2 + waits[i]);
            }
        }
        BurstBounds x = served();
        Desk.flow(x, 0, 2, 3);
        Desk.flow(x, 0, 2);
        x.serve(2, x.late(1, 3));
        x.rule(ANYHOW);
        due("anyhow: goes on at 1", x.there(0, 0, 2, 1), 4);
        x.rule(RANKS);
        due("ranks: goes on at 1", x.there(0, 0, 2, 1), 3);
    }
}
