import java.util.Arrays;

/** Fills sheets, so that a test can tell a row or a text in one line. */
final class Desk {
    private Desk() {
    }

    static void row(BurstBounds x, int sheet, int lane, int... numbers) {
        x.sheet(sheet, lane, numbers.length);
        for (int i = 0; i < numbers.length; i++) {
            x.put(sheet, i, numbers[i]);
        }
    }

    static void codes(BurstBounds x, int sheet, int lane, String text) {
        x.sheet(sheet, lane, text.length());
        for (int i = 0; i < text.length(); i++) {
            x.put(sheet, i, text.charAt(i));
        }
    }

    /** STEPS by a row, written on SHEET 3 as ints. */
    static int steps(BurstBounds x, int... numbers) {
        row(x, 3, 2, numbers);
        return x.steps(3, 2, 0, numbers.length);
    }

    static int text(BurstBounds x, String text) {
        codes(x, 3, 2, text);
        return x.text(3, 2, 0, text.length());
    }

    static int flow(BurstBounds x, int f, int... way) {
        row(x, 3, 2, way);
        return x.flow(f, 3, 2, 0, way.length);
    }

    static int see(BurstBounds x, int... numbers) {
        row(x, 3, 2, numbers);
        return x.see(3, 2, 0, numbers.length);
    }

    /** A STAIR that is 0 till TICK t less 1, and much from t on. */
    static int from(BurstBounds x, int t, int much) {
        return x.move(0, x.bucket(much, 0), t - 1);
    }

    /** A row of n numbers, each the same. */
    static int[] numbers(int n, int each) {
        int[] row = new int[n];
        Arrays.fill(row, each);
        return row;
    }

    /** An object that has 24 STAIRS. */
    static BurstBounds fullOfStairs() {
        BurstBounds x = new BurstBounds();
        for (int f = 0; f < 24; f++) {
            x.bucket(f, 1);
        }
        return x;
    }
}
