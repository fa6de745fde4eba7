import java.util.ArrayList;
import java.util.Arrays;
import java.util.List;
import java.util.Map;
import java.util.Random;
import java.util.TreeMap;

/** Random runs of 512 calls on the class and on the plain model: each answer is the same. */
public final class RandomRunsTest {
    private static final Check CHECK = new Check("RandomRunsTest");
    private static final int RUNS = 600;
    private static final int CALLS = 512;

    private static final String[] NAMES = Calls.names().toArray(new String[0]);

    private final Random random;
    private final BurstBounds real = new BurstBounds();
    private final PlainModel model = new PlainModel();
    private final StringBuilder story = new StringBuilder();
    private final Map<String, Integer> answered;
    private final int run;
    private int left = CALLS;
    private boolean same = true;

    private RandomRunsTest(int run, Map<String, Integer> answered) {
        this.run = run;
        this.random = new Random(1000003L * run + 17);
        this.answered = answered;
    }

    public static void main(String[] args) {
        int runs = args.length > 0 ? Integer.parseInt(args[0]) : RUNS;
        Map<String, Integer> answered = new TreeMap<>();
        for (int run = 0; run < runs && !CHECK.hasMany(); run++) {
            new RandomRunsTest(run, answered).go();
        }
        if (args.length > 1) {
            answered.forEach((what, count) -> System.out.println(what + " " + count));
        }
        // runs that never come to an answer of a kind would hold nothing against it
        for (String what : ("latest fine,latest -3,there fine,heapAt fine,heapAt -3,bound fine,bound -9,bound -3,"
                + "flow -3,flow -4,flow fine,steps -4,text fine,text -100,keeps fine,keeps -9,shape -9,shape fine,"
                + "letIn fine,copy fine,copy -12,copy -13,as -12,delay -9,delay fine,text -4").split(",")) {
            CHECK.holds("'" + what + "' was come to", answered.getOrDefault(what, 0) > 20);
        }
        CHECK.end();
    }

    private void go() {
        boolean wild = run % 4 == 3;
        if (!wild) {
            layOut();
        }
        while (left > 0 && same) {
            int dice = random.nextInt(40);
            if (dice < 3) {
                prepared();
            } else if (dice == 3 && !wild) {
                askNetwork();
            } else {
                any();
            }
        }
    }

    // ---- runs that come to something

    private void layOut() {
        int served = 1 + random.nextInt(3);
        for (int f = 0; f < served; f++) {
            call("late", random.nextInt(8), 5 + random.nextInt(random.nextBoolean() ? 40 : 900));
        }
        for (int f = 0; f < 2; f++) {
            call("bucket", random.nextInt(20), random.nextInt(6));
        }
        for (int v = 0; v < 6; v++) {
            if (random.nextInt(30) != 0) {
                call("serve", v, random.nextInt(served));
            }
        }
        int flows = random.nextInt(6);
        boolean down = random.nextInt(4) != 0;
        for (int w = 0; w < flows; w++) {
            way(served + random.nextInt(2), down);
        }
        call("rule", random.nextInt(3));
        askNetwork();
    }

    /** Changes a little, and then asks for most of what can be worked out. */
    private void askNetwork() {
        switch (random.nextInt(5)) {
            case 0:
                call("rule", random.nextInt(3));
                break;
            case 1:
                int slow = (int) model.call("many", 0);
                call("late", random.nextInt(25), 1 + random.nextInt(30));
                call("serve", random.nextInt(6), slow);
                break;
            case 2:
                call("serve", random.nextInt(6), random.nextInt(3));
                break;
            default:
                break;
        }
        for (int w = 0; w < 5; w++) {
            for (int k = 0; k < 4; k++) {
                call("latest", w, k);
                call("there", w, k, random.nextInt(3), random.nextInt(41));
            }
            call("bound", w, 0);
            call("bound", w, 1);
        }
        call("heapAt", random.nextInt(6));
    }

    private void way(int f, boolean rising) {
        List<Integer> nodes = new ArrayList<>(List.of(0, 1, 2, 3, 4, 5));
        java.util.Collections.shuffle(nodes, random);
        int[] way = new int[1 + random.nextInt(4)];
        for (int k = 0; k < way.length; k++) {
            way[k] = nodes.get(k);
        }
        if (random.nextInt(15) == 0) {
            way[0] = way[way.length - 1];
        }
        if (rising) {
            Arrays.sort(way);
        }
        int sheet = random.nextInt(4);
        int lane = random.nextInt(3);
        write(sheet, lane, way);
        call("flow", f, sheet, lane, 0, way.length);
    }

    private void write(int sheet, int lane, int... row) {
        call("sheet", sheet, lane, row.length);
        for (int i = 0; i < row.length; i++) {
            if (row[i] != 0) {
                call("put", sheet, i, row[i]);
            }
        }
    }

    private void prepared() {
        int sheet = random.nextInt(4);
        int lane = random.nextInt(3);
        switch (random.nextInt(6)) {
            case 0:
                write(sheet, lane, row(lane));
                call("steps", sheet, lane, 0, 1 + random.nextInt(8));
                break;
            case 1:
            case 2:
                int[] codes = codes();
                write(sheet, lane, codes);
                call("text", sheet, lane, 0, codes.length);
                break;
            case 3:
            case 4:
                int[] row = row(lane);
                write(sheet, lane, row);
                call("see", sheet, lane, 0, row.length);
                break;
            default:
                way(random.nextInt(6), random.nextBoolean());
                break;
        }
    }

    private int[] row(int lane) {
        int[] row = new int[1 + random.nextInt(random.nextInt(12) == 0 ? 41 : 9)];
        int most = random.nextInt(4) == 0 ? 1001 : 1 + random.nextInt(30);
        for (int i = 0; i < row.length; i++) {
            row[i] = random.nextInt(3) == 0 ? 0 : random.nextInt(lane == 0 ? Math.min(most, 127) : most);
        }
        return row;
    }

    private int[] codes() {
        StringBuilder text = new StringBuilder();
        int items = 1 + random.nextInt(random.nextInt(5) == 0 ? 8 : 3);
        char sign = random.nextBoolean() ? '&' : '+';
        for (int i = 0; i < items; i++) {
            if (i > 0) {
                text.append(random.nextInt(25) == 0 ? '&' : sign);
            }
            int kind = random.nextInt(3);
            if (kind < 2) {
                text.append(kind == 0 ? 'b' : 'l').append(number(kind == 0 ? 10001 : 42));
            }
            text.append('r').append(number(1001));
        }
        if (random.nextInt(3) == 0) {
            int place = random.nextInt(text.length());
            char other = "blr&+0459x ".charAt(random.nextInt(11));
            switch (random.nextInt(3)) {
                case 0:
                    text.setCharAt(place, other);
                    break;
                case 1:
                    text.insert(place, other);
                    break;
                default:
                    text.setLength(place);
                    break;
            }
        }
        return text.chars().limit(60).toArray();
    }

    private String number(int most) {
        int v = random.nextInt(3) == 0 ? random.nextInt(most) : random.nextInt(Math.min(most, 30));
        if (random.nextInt(40) == 0) {
            v = random.nextInt(100000);
        }
        return random.nextInt(10) == 0 ? String.format("%04d", v) : "" + v;
    }

    // ---- any call with any numbers

    private void any() {
        String name = NAMES[random.nextInt(NAMES.length)];
        if ((name.equals("serve") || name.equals("sheet") || name.equals("lose")) && random.nextInt(3) != 0) {
            name = "there";
        }
        int[] a = new int[Calls.numbersOf(name)];
        for (int i = 0; i < a.length; i++) {
            a[i] = argument(name, i);
        }
        call(name, a);
    }

    private int argument(String name, int i) {
        int dice = random.nextInt(40);
        if (dice == 0) {
            int[] odd = {Integer.MIN_VALUE, Integer.MAX_VALUE, -9, -1, 41, 100, 60, 61, 10000, 1000, 24, 5, 6, 3, 4};
            return odd[random.nextInt(odd.length)];
        }
        if (dice == 1) {
            return random.nextInt();
        }
        switch (name + i) {
            case "shape1":
                return random.nextInt(4) == 0 ? 100 + random.nextInt(42) : random.nextInt(2);
            case "ofFlow1":
                return random.nextBoolean() ? 10 + random.nextInt(5) : random.nextInt(3);
            case "bucket0":
                return random.nextInt(random.nextInt(6) == 0 ? 10001 : 40);
            case "bucket1":
            case "late1":
            case "burst0":
                return random.nextInt(random.nextInt(6) == 0 ? 1001 : 12);
            case "late0":
            case "at1":
            case "move2":
            case "letIn2":
            case "there3":
                return random.nextInt(42);
            case "put2":
                return random.nextBoolean() ? random.nextInt(7) : random.nextInt(1200) - 100;
            case "sheet2":
                return random.nextInt(62) - 1;
            case "serve1":
                return random.nextInt(8) == 0 ? -9 : random.nextInt(6);
            default:
                return random.nextInt(random.nextBoolean() ? 4 : 9) - (random.nextInt(30) == 0 ? 1 : 0);
        }
    }

    private void call(String name, int... a) {
        if (left == 0 || !same) {
            return;
        }
        left--;
        long got = Calls.make(real, name, a);
        long want = model.call(name, a);
        String told = Calls.told(name, a);
        story.append(told).append(" -> ").append(want).append('\n');
        answered.merge(name + " " + (want >= 0 ? "fine" : want <= -100 ? "-100" : "" + want), 1, Integer::sum);
        same = got == want;
        CHECK.due("run " + run + ": " + told, got, want);
        if (!same) {
            System.out.println(story);
        }
    }
}
