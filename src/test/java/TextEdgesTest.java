/** The boundary cases of promise 5: what is a TEXT, and where its FIRST FAULT is. */
public final class TextEdgesTest {
    private static final int FULL = -4, NULL = -11, CAST = -12, INDEX = -13, SIZE = -14;
    private static final String DIGITS = "0123456789";

    private static final Check CHECK = new Check("TextEdgesTest");

    public static void main(String[] args) {
        codesThatGoOn();
        endsTooSoon();
        lengthsOfNumbers();
        edgesOfNumbers();
        numbersThatAreNotAsTold();
        oneToSixItems();
        neverBoth();
        sumsAndLeasts();
        kindsOfTexts();
        sixtyCodes();
        partsOfSheets();
        inOrder();
        allShortTexts();
        CHECK.end();
    }

    private static void due(String what, long got, long want) {
        CHECK.due(what, got, want);
    }

    private static int answerTo(String text) {
        return Desk.text(new BurstBounds(), text);
    }

    private static void isText(String text) {
        due("'" + text + "'", answerTo(text), 0);
    }

    private static void faultAt(int place, String text) {
        BurstBounds x = new BurstBounds();
        due("'" + text + "'", Desk.text(x, text), -100 - place);
        due("'" + text + "' makes none", x.many(0), 0);
    }

    /** "the place (from 0 on) of the first code with which no TEXT goes on" */
    private static void codesThatGoOn() {
        goesOnWith("", "blr");
        goesOnWith("b", DIGITS);
        goesOnWith("b5", DIGITS + "r");
        goesOnWith("b5000", "r");
        goesOnWith("b5r", DIGITS);
        goesOnWith("b5r3", DIGITS + "&+");
        goesOnWith("b5r0300", "&+");
        goesOnWith("l", DIGITS);
        goesOnWith("l3", DIGITS + "r");
        goesOnWith("l0030", "r");
        goesOnWith("l3r", DIGITS);
        goesOnWith("l3r3", DIGITS + "&+");
        goesOnWith("r", DIGITS);
        goesOnWith("r3", DIGITS + "&+");
        goesOnWith("r0300", "&+");
        goesOnWith("r3&", "blr");
        goesOnWith("r3+", "blr");
        goesOnWith("r3&r3", DIGITS + "&");
        goesOnWith("r3+r3", DIGITS + "+");
        goesOnWith("r3&b3r3", DIGITS + "&");
        goesOnWith("r3+r3+r3+r3+r3", DIGITS + "+");
        goesOnWith("r3+r3+r3+r3+r3+r3", DIGITS);
        goesOnWith("r3&r3&r3&r3&r3&l3r0003", "");
    }

    private static void goesOnWith(String beginning, String codes) {
        int place = beginning.length();
        for (int code = -300; code <= 400; code++) {
            BurstBounds x = new BurstBounds();
            x.sheet(0, 2, place + 1);
            for (int i = 0; i < place; i++) {
                x.put(0, i, beginning.charAt(i));
            }
            x.put(0, place, code);
            int answer = x.text(0, 2, 0, place + 1);
            String told = "'" + beginning + "' and " + code + ": " + answer;
            if (code >= 0 && codes.indexOf(code) >= 0) {
                CHECK.holds(told, answer == 0 || answer == -100 - place - 1);
            } else {
                CHECK.holds(told, answer == -100 - place);
            }
        }
    }

    /** "how many codes there are, if it just ends too soon" */
    private static void endsTooSoon() {
        for (String text : new String[] {"b9999r999&l40r0&r7", "l0r1+b0r0+r0+r1+r2+l3r4", "r5"}) {
            isText(text);
            for (int count = 0; count < text.length(); count++) {
                String beginning = text.substring(0, count);
                boolean ends = beginning.matches(".*r[0-9]+");
                due("'" + beginning + "'", answerTo(beginning), ends ? 0 : -100 - count);
            }
        }
        faultAt(0, "");
    }

    /** "numbers of one to four digits (a fifth one is a code with which no TEXT goes on)" */
    private static void lengthsOfNumbers() {
        String[] zeros = {"0", "00", "000", "0000"};
        for (String zero : zeros) {
            isText("b" + zero + "r" + zero);
            isText("l" + zero + "r" + zero);
            isText("r" + zero);
        }
        faultAt(1, "br1");
        faultAt(1, "lr1");
        faultAt(1, "r");
        faultAt(1, "r&r1");
        faultAt(3, "b1r");
        faultAt(5, "b00000r1");
        faultAt(5, "l00000r1");
        faultAt(5, "r00000");
        faultAt(7, "b1r00000");
        faultAt(7, "l1r00000");
        faultAt(5, "b99990r1");
        faultAt(5, "r09990");
    }

    private static void holdsAt40(String text, int number) {
        BurstBounds x = new BurstBounds();
        due("'" + text + "'", Desk.text(x, text), 0);
        due("'" + text + "' at 40", x.at(0, 40), number);
        due("'" + text + "' at 0", x.at(0, 0), 0);
    }

    /** "numbers .. as told for those": b 0 .. 9999, l 0 .. 40, r 0 .. 999 */
    private static void edgesOfNumbers() {
        holdsAt40("b0r0", 0);
        holdsAt40("b9999r0", 9999);
        holdsAt40("b0r999", 39960);
        holdsAt40("b9999r999", 49959);
        holdsAt40("b0001r0001", 41);
        holdsAt40("l0r0", 0);
        holdsAt40("l40r999", 0);
        holdsAt40("l39r999", 999);
        holdsAt40("l0r999", 39960);
        holdsAt40("l0040r0999", 0);
        holdsAt40("r0", 0);
        holdsAt40("r999", 39960);
        holdsAt40("r0999", 39960);
    }

    /** "of a number that is not as told its first digit" */
    private static void numbersThatAreNotAsTold() {
        faultAt(1, "l41r1");
        faultAt(1, "l041r1");
        faultAt(1, "l0041r1");
        faultAt(1, "l100r1");
        faultAt(1, "l9999r1");
        faultAt(1, "r1000");
        faultAt(1, "r9999");
        faultAt(3, "b1r1000");
        faultAt(3, "l1r1000");
        faultAt(6, "b9999r1000");
        faultAt(4, "r1&l41r1");
        faultAt(4, "r1+r1000");
        faultAt(6, "r1+b1r1000");
        // ahead of what else is wrong behind it
        faultAt(1, "l41");
        faultAt(1, "l41x");
        faultAt(1, "l41r");
        faultAt(1, "r1000x");
        faultAt(1, "r1000&");
        faultAt(1, "l41r1000");
        // and behind what is wrong ahead of it
        faultAt(2, "b5l41r1");
        faultAt(2, "r1x1000");
    }

    private static String items(int count, String sign) {
        StringBuilder text = new StringBuilder("r1");
        for (int i = 1; i < count; i++) {
            text.append(sign).append("r1");
        }
        return text.toString();
    }

    /** "1 to 6 items" */
    private static void oneToSixItems() {
        for (String sign : new String[] {"&", "+"}) {
            for (int count = 1; count <= 6; count++) {
                holdsAt40(items(count, sign), sign.equals("+") ? 40 * count : 40);
            }
            faultAt(17, items(7, sign));
            faultAt(17, items(6, sign) + sign);
            faultAt(14, items(5, sign) + "x");
            faultAt(15, items(5, sign) + sign);
            faultAt(15, items(5, sign) + sign + sign);
        }
        faultAt(0, "");
        faultAt(0, "&r1");
        faultAt(0, "+r1");
    }

    /** "with & between .., or + between .., never both" */
    private static void neverBoth() {
        faultAt(5, "r1&r1+r1");
        faultAt(5, "r1+r1&r1");
        faultAt(14, items(5, "&") + "+r1");
        faultAt(14, items(5, "+") + "&r1");
        faultAt(3, "r1&+r1");
        faultAt(3, "r1+&r1");
    }

    /** "(the least of all, TICK by TICK)", "(their sum)", which is 99999 at most */
    private static void sumsAndLeasts() {
        holdsAt40("b9999r999+b9999r251+b9999r0+b9999r0+b9999r0+b3r0", 99998);
        holdsAt40("b9999r999+b9999r251+b9999r0+b9999r0+b9999r0+b4r0", 99999);
        holdsAt40("b9999r999+b9999r251+b9999r0+b9999r0+b9999r0+b5r0", 99999);
        holdsAt40("b9999r999+b9999r999+b9999r999+b9999r999+b9999r999", 99999);
        holdsAt40("b9999r999&r0", 0);
        holdsAt40("r0&b9999r999", 0);
        holdsAt40("r9&r8&r7&r6&r5&r4", 160);
        holdsAt40("r4&r5&r6&r7&r8&r9", 160);
        BurstBounds x = new BurstBounds();
        Desk.text(x, "b10r0&r4&l2r9");
        int[] row = {0, 0, 0, 9, 10, 10};
        for (int t = 0; t < row.length; t++) {
            due("the least at " + t, x.at(0, t), row[t]);
        }
    }

    /** "One item makes a STAIR of its own kind, several make STEPS." */
    private static void kindsOfTexts() {
        isOfKind("r1", 0);
        isOfKind("b1r1", 1);
        isOfKind("l1r1", 2);
        isOfKind("b1r1&b1r1", 0);
        isOfKind("l1r1&l1r1", 0);
        isOfKind("l1r1+l1r1", 0);
        isOfKind("r1+b1r1", 0);
        isOfKind("r1&r1&r1&r1&r1&l1r1", 0);
    }

    private static void isOfKind(String text, int kind) {
        BurstBounds x = new BurstBounds();
        Desk.text(x, "l1r1");
        int f = Desk.text(x, text);
        for (int other = 0; other < 3; other++) {
            due("'" + text + "' as " + other, x.as(f, other), other <= kind ? 1 : CAST);
        }
    }

    /** "a row of 0 .. 60 numbers": the longest TEXTS that a SHEET can hold */
    private static void sixtyCodes() {
        String six = "b9999r999&b9999r999&b9999r999&b9999r999&b9999r999&b9999r999";
        due("how long", six.length(), 59);
        holdsAt40(six, 49959);
        String sixty = "b9999r0999&b9999r999&b9999r999&b9999r999&b9999r999&b9999r999";
        due("how much longer", sixty.length(), 60);
        holdsAt40(sixty, 49959);
        faultAt(59, six + "&");
        faultAt(58, "b9999r0999&b9999r0999&b9999r0999&b9999r0999&b9999r0999&b99x");
        faultAt(60, "b9999r0999&b9999r0999&b9999r0999&b9999r0999&b9999r0999&b9999");
    }

    /** "of n such cells": from i on, and no others; places are told from the first of them on. */
    private static void partsOfSheets() {
        for (int lane = 0; lane < 3; lane++) {
            BurstBounds x = new BurstBounds();
            Desk.codes(x, 1, lane, "xr51&");
            due("behind the first", x.text(1, lane, 1, 2), 0);
            due("behind the first at 1", x.at(0, 1), 5);
            due("one more", x.text(1, lane, 1, 3), 1);
            due("one more at 1", x.at(1, 1), 51);
            due("to the end", x.text(1, lane, 1, 4), -104);
            due("from the number on", x.text(1, lane, 2, 3), -100);
            due("the last alone", x.text(1, lane, 4, 1), -100);
            due("none at the end", x.text(1, lane, 5, 0), -100);
            due("none beyond the end", x.text(1, lane, 6, 0), INDEX);
            due("none of them", x.text(1, lane, 0, 0), -100);
            x.sheet(2, lane, 0);
            due("none of none", x.text(2, lane, 0, 0), -100);
            due("none beyond none", x.text(2, lane, 1, 0), INDEX);
        }
        BurstBounds x = new BurstBounds();
        Desk.row(x, 0, 0, 'r' + 256, '5' - 256);
        due("what is cut to codes", x.text(0, 0, 0, 2), 0);
        Desk.row(x, 1, 1, 'r' + 65536, '5');
        due("what is cut to codes of shorts", x.text(1, 1, 0, 2), 1);
        Desk.row(x, 2, 2, 'r' + 65536, '5');
        due("what is not cut", x.text(2, 2, 0, 2), -100);
    }

    /** "CAST; NULL; SIZE; INDEX; -100 less it; FULL" */
    private static void inOrder() {
        BurstBounds x = Desk.fullOfStairs();
        due("null", x.text(0, 0, 9, -1), NULL);
        Desk.codes(x, 0, 0, "r5x");
        due("cast", x.text(0, 1, 9, -1), CAST);
        due("size", x.text(0, 0, 9, -1), SIZE);
        due("index", x.text(0, 0, 9, 1), INDEX);
        due("first fault", x.text(0, 0, 0, 3), -102);
        due("full", x.text(0, 0, 0, 2), FULL);
        due("no fault told", x.fault(), 0);
        due("no stair more", x.many(0), 24);
    }

    /** Each row of five codes at most, of those that matter, held against the plain model. */
    private static void allShortTexts() {
        String codes = "blr&+059x";
        for (int length = 0; length <= 5 && !CHECK.hasMany(); length++) {
            int rows = (int) Math.round(Math.pow(codes.length(), length));
            for (int row = 0; row < rows; row++) {
                StringBuilder text = new StringBuilder();
                int rest = row;
                for (int i = 0; i < length; i++) {
                    text.append(codes.charAt(rest % codes.length()));
                    rest /= codes.length();
                }
                int wrong = PlainModel.firstFault(text.toString());
                due("'" + text + "'", answerTo(text.toString()), wrong < 0 ? 0 : -100 - wrong);
            }
        }
    }
}
