import java.util.ArrayList;
import java.util.List;

/**
 * A call that is refused "changes nothing (but fault(), of a call that names FAULTS)": of two objects
 * with the same calls behind them one is refused something, and then both answer all else alike.
 */
final class Twins {
    private static final int PARTS = 5;

    private final Check check;

    Twins(Check check) {
        this.check = check;
    }

    /** Of `cell` the reason is told as for other calls; LOST is what it answers. */
    void refused(Scene scene, int reason, String name, int... a) {
        String told = Calls.told(name, a);
        for (int part = 0; part < PARTS; part++) {
            BurstBounds x = Scene.laid(scene);
            BurstBounds twin = Scene.laid(scene);
            int fault = x.fault();
            check.due(told, Calls.make(x, name, a), name.equals("cell") ? Long.MIN_VALUE : reason);
            check.due("fault() behind " + told, x.fault(), faultDue(name, reason, fault));
            new Probes(part).compare(told, x, twin);
        }
    }

    private static int faultDue(String name, int reason, int before) {
        if (!Calls.namesFaults(name)) {
            return before;
        }
        return reason <= -11 && reason >= -14 ? -10 - reason : 0;
    }

    /**
     * What is asked of both twins; in parts, since an object is used for 512 calls, and each part first
     * asks what can't be refused, since a call that is refused might change both of them alike.
     */
    private final class Probes {
        private final List<String> names = new ArrayList<>();
        private final List<int[]> numbers = new ArrayList<>();

        Probes(int part) {
            switch (part) {
                case 0:
                    ofStairs();
                    break;
                case 1:
                    ofNetwork();
                    break;
                case 2:
                    ofSeen();
                    break;
                case 3:
                    ofRule();
                    break;
                default:
                    ofSheets();
                    break;
            }
        }

        private void ask(String name, int... a) {
            names.add(name);
            numbers.add(a);
        }

        void compare(String told, BurstBounds x, BurstBounds twin) {
            check.holds("512 calls at most", names.size() < 400);
            for (int i = 0; i < names.size(); i++) {
                String name = names.get(i);
                int[] a = numbers.get(i);
                check.due(Calls.told(name, a) + " behind " + told,
                        Calls.make(x, name, a), Calls.make(twin, name, a));
            }
        }

        private void ofStairs() {
            ask("many", 0);
            for (int f = 0; f < 24; f++) {
                for (int t : new int[] {1, 2, 3, 10, 40}) {
                    ask("at", f, t);
                }
                ask("as", f, 1);
                ask("as", f, 2);
            }
            ask("late", 1, 2);
            ask("bucket", 7, 7);
            for (int f = 0; f < 24; f++) {
                ask("at", f, 1);
            }
        }

        private void ofNetwork() {
            ask("many", 1);
            ask("many", 3);
            ask("ring");
            for (int w = 0; w < 6; w++) {
                for (int what : new int[] {0, 1, 10, 11, 12, 13}) {
                    ask("ofFlow", w, what);
                }
                for (int k = 0; k < 4; k++) {
                    ask("latest", w, k);
                    ask("there", w, k, 0, 1);
                    ask("there", w, k, 1, 20);
                    ask("there", w, k, 2, 1);
                }
                ask("bound", w, 0);
                ask("bound", w, 1);
            }
            for (int v = 0; v < 6; v++) {
                ask("heapAt", v);
            }
            ask("sheet", 3, 2, 1);
            ask("flow", 0, 3, 2, 0, 1);
        }

        private void ofRule() {
            ask("rule", 1);
            for (int v = 0; v < 6; v++) {
                ask("serve", v, Scene.NONE);
            }
            ask("many", 3);
        }

        private void ofSeen() {
            ask("many", 2);
            ask("trace");
            for (int r = 0; r < 25; r++) {
                ask("burst", r);
            }
            for (int f = 0; f < 5; f++) {
                ask("keeps", f, 0);
                ask("keeps", f, 1);
                ask("shape", f, 0);
                ask("shape", f, 1);
            }
            for (int t = 0; t <= 40; t++) {
                ask("shape", 0, 100 + t);
            }
            ask("draw", 0);
            ask("tell", 0);
            ask("trace");
        }

        private void ofSheets() {
            int[] counts = {6, 5, 60};
            for (int k = 0; k < 3; k++) {
                for (int i = 0; i < counts[k]; i++) {
                    ask("cell", k, i, k);
                }
            }
            for (int k = 0; k < 4; k++) {
                for (int lane = 0; lane < 3; lane++) {
                    for (int i : new int[] {0, 1, 2, 3, 4, 5, 6, 57, 58, 59, 60}) {
                        ask("cell", k, i, lane);
                        ask("fault");
                    }
                }
            }
            for (int k = 0; k < 4; k++) {
                ask("lose", k);
            }
        }
    }
}
