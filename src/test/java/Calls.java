import java.util.ArrayList;
import java.util.Arrays;
import java.util.List;

/** The calls of the face by their names, so that a test can tell a call as a row. */
final class Calls {
    /** Each name with how many numbers it takes. */
    static final String FACE = "steps4 bucket2 late2 text4 at2 make3 move3 delay2 heap2 within2 serve2 flow5 ofFlow2 "
            + "rule1 ring0 latest2 there4 heapAt1 bound2 see4 keeps2 burst1 shape2 letIn3 sheet3 lose1 put3 cell3 "
            + "copy5 tell1 draw1 as2 trace0 fault0 many1";

    private static final String NAMING_FAULTS = " steps text flow see sheet put cell copy as ";

    private Calls() {
    }

    static List<String> names() {
        List<String> names = new ArrayList<>();
        for (String call : FACE.split(" ")) {
            names.add(call.substring(0, call.length() - 1));
        }
        return names;
    }

    static int numbersOf(String name) {
        return FACE.split(" ")[names().indexOf(name)].charAt(name.length()) - '0';
    }

    static boolean namesFaults(String name) {
        return NAMING_FAULTS.contains(" " + name + " ");
    }

    static String told(String name, int... a) {
        String row = Arrays.toString(a);
        return name + "(" + row.substring(1, row.length() - 1) + ")";
    }

    static long make(BurstBounds x, String name, int... a) {
        switch (name) {
            case "steps": return x.steps(a[0], a[1], a[2], a[3]);
            case "bucket": return x.bucket(a[0], a[1]);
            case "late": return x.late(a[0], a[1]);
            case "text": return x.text(a[0], a[1], a[2], a[3]);
            case "at": return x.at(a[0], a[1]);
            case "make": return x.make(a[0], a[1], a[2]);
            case "move": return x.move(a[0], a[1], a[2]);
            case "delay": return x.delay(a[0], a[1]);
            case "heap": return x.heap(a[0], a[1]);
            case "within": return x.within(a[0], a[1]);
            case "serve": return x.serve(a[0], a[1]);
            case "flow": return x.flow(a[0], a[1], a[2], a[3], a[4]);
            case "ofFlow": return x.ofFlow(a[0], a[1]);
            case "rule": return x.rule(a[0]);
            case "ring": return x.ring();
            case "latest": return x.latest(a[0], a[1]);
            case "there": return x.there(a[0], a[1], a[2], a[3]);
            case "heapAt": return x.heapAt(a[0]);
            case "bound": return x.bound(a[0], a[1]);
            case "see": return x.see(a[0], a[1], a[2], a[3]);
            case "keeps": return x.keeps(a[0], a[1]);
            case "burst": return x.burst(a[0]);
            case "shape": return x.shape(a[0], a[1]);
            case "letIn": return x.letIn(a[0], a[1], a[2]);
            case "sheet": return x.sheet(a[0], a[1], a[2]);
            case "lose": return x.lose(a[0]);
            case "put": return x.put(a[0], a[1], a[2]);
            case "cell": return x.cell(a[0], a[1], a[2]);
            case "copy": return x.copy(a[0], a[1], a[2], a[3], a[4]);
            case "tell": return x.tell(a[0]);
            case "draw": return x.draw(a[0]);
            case "as": return x.as(a[0], a[1]);
            case "trace": return x.trace();
            case "fault": return x.fault();
            case "many": return x.many(a[0]);
            default: throw new IllegalStateException(name);
        }
    }
}
