/** Promises 21 to 25: what was seen, and how many may be let in. */
public final class SeenTest {
    private static final int UNKNOWN = -1, OUTSIDE = -2, STATE = -3, NONE = -9;
    private static final int NULL = -11, CAST = -12, INDEX = -13, SIZE = -14;

    private static final Check CHECK = new Check("SeenTest");

    public static void main(String[] args) {
        promise21();
        promise21Wrong();
        promise22();
        promise23();
        promise24();
        promise24Ends();
        promise25();
        CHECK.end();
    }

    private static void due(String what, long got, long want) {
        CHECK.due(what, got, want);
    }

    private static void promise21() {
        BurstBounds x = new BurstBounds();
        Desk.row(x, 0, 0, 9, 4, 0, 7, 9);
        due("21 bytes", x.see(0, 0, 1, 3), 3);
        due("21 many", x.many(2), 3);
        due("21 no fault", x.fault(), 0);
        due("21 in all", x.burst(0), 11);
        Desk.row(x, 1, 1, 999);
        due("21 shorts", x.see(1, 1, 0, 1), 1);
        due("21 many of the new ones", x.many(2), 1);
        due("21 the old ones are gone", x.burst(0), 999);
        int[] forty = new int[40];
        forty[39] = 3;
        due("21 forty", Desk.see(x, forty), 40);
        due("21 the last one counts", x.burst(0), 3);
        Desk.row(x, 3, 2, 8);
        due("21 it stays as it was", x.burst(0), 3);
    }

    private static void promise21Wrong() {
        BurstBounds x = new BurstBounds();
        due("21 sheet", x.see(4, 3, -1, -1), UNKNOWN);
        due("21 lane", x.see(0, 3, -1, -1), OUTSIDE);
        due("21 null", x.see(0, 0, -1, -1), NULL);
        due("21 null told", x.fault(), 1);
        Desk.row(x, 0, 1, 1, 1000, -1);
        due("21 cast", x.see(0, 0, -1, -1), CAST);
        due("21 cast told", x.fault(), 2);
        due("21 size", x.see(0, 1, -1, -1), SIZE);
        due("21 size told", x.fault(), 4);
        due("21 index", x.see(0, 1, 2, 2), INDEX);
        due("21 index told", x.fault(), 3);
        due("21 index of none", x.see(0, 1, 4, 0), INDEX);
        due("21 none", x.see(0, 1, 3, 0), OUTSIDE);
        due("21 none told", x.fault(), 0);
        due("21 number above", x.see(0, 1, 0, 2), OUTSIDE);
        due("21 number below", x.see(0, 1, 2, 1), OUTSIDE);
        due("21 forty one", Desk.see(x, new int[41]), OUTSIDE);
        due("21 nothing seen", x.many(2), 0);
        Desk.see(x, 5);
        due("21 refused", Desk.see(x, 7, 1000), OUTSIDE);
        due("21 refused changes nothing", x.burst(0), 5);
    }

    private static void promise22() {
        BurstBounds x = new BurstBounds();
        x.bucket(5, 3);
        due("22 nothing seen", x.keeps(0, 0), STATE);
        due("22 nothing seen, where", x.keeps(0, 1), STATE);
        due("22 unknown ahead of outside", x.keeps(1, 2), UNKNOWN);
        due("22 outside ahead of state", x.keeps(0, 2), OUTSIDE);
        due("22 what below", x.keeps(0, -1), OUTSIDE);
        Desk.see(x, 8, 3, 3, 3);
        due("22 just keeps", x.keeps(0, 0), 1);
        due("22 breaks nowhere", x.keeps(0, 1), NONE);
        Desk.see(x, 8, 4, 9);
        due("22 breaks", x.keeps(0, 0), 0);
        due("22 the first t", x.keeps(0, 1), 200);
        Desk.see(x, 0, 0, 9, 9);
        due("22 the greatest s", x.keeps(0, 1), 302);
        Desk.see(x, 8, 0, 4, 6);
        due("22 from far back", x.keeps(0, 1), 400);
        Desk.see(x, 9);
        due("22 at tick 1", x.keeps(0, 1), 100);
        due("22 at tick 1 alone", x.keeps(0, 0), 0);
        int[] last = new int[40];
        last[39] = 9;
        Desk.see(x, last);
        due("22 at the last tick", x.keeps(0, 1), 4039);
        x.late(40, 1);
        Desk.see(x, 0, 1);
        due("22 a late one", x.keeps(1, 1), 201);
        Desk.see(x, 0, 0);
        due("22 nothing came", x.keeps(1, 0), 1);
    }

    private static void promise23() {
        BurstBounds x = new BurstBounds();
        due("23 outside ahead of state", x.burst(1000), OUTSIDE);
        due("23 below", x.burst(-1), OUTSIDE);
        due("23 nothing seen", x.burst(0), STATE);
        Desk.see(x, 4, 0, 9, 0, 0, 20, 1);
        due("23 for 0", x.burst(0), 34);
        due("23 for 1", x.burst(1), 27);
        due("23 for 3", x.burst(3), 17);
        due("23 for 9", x.burst(9), 11);
        due("23 for 20", x.burst(20), 0);
        due("23 for 999", x.burst(999), 0);
        Desk.see(x, 0, 0, 0, 5, 5);
        due("23 behind a pause", x.burst(2), 6);
        int[] most = new int[40];
        java.util.Arrays.fill(most, 999);
        Desk.see(x, most);
        due("23 above 9999", x.burst(0), 39960);
        due("23 for its pace", x.burst(999), 0);
        due("23 for one less", x.burst(998), 40);
    }

    private static void promise24() {
        BurstBounds x = new BurstBounds();
        x.bucket(5, 3);
        due("24 unknown ahead of outside", x.shape(1, 2), UNKNOWN);
        due("24 outside ahead of state", x.shape(0, 2), OUTSIDE);
        due("24 what below", x.shape(0, -1), OUTSIDE);
        due("24 99", x.shape(0, 99), OUTSIDE);
        due("24 141", x.shape(0, 141), OUTSIDE);
        due("24 nothing seen", x.shape(0, 0), STATE);
        due("24 nothing seen, a tick", x.shape(0, 140), STATE);
        Desk.see(x, 4, 0, 9, 0, 0, 20, 1);
        due("24 held", x.shape(0, 0), 12);
        due("24 late", x.shape(0, 1), 4);
        int[] went = {0, 4, 4, 12, 13, 13, 21, 24, 27, 30, 33, 34, 34};
        for (int t = 0; t < went.length; t++) {
            due("24 went on till " + t, x.shape(0, 100 + t), went[t]);
        }
        due("24 went on till 40", x.shape(0, 140), 34);
        due("24 what was seen stays", x.burst(0), 34);
        due("24 no new stair", x.many(0), 1);
        Desk.see(x, 8, 3);
        due("24 kept: none held", x.shape(0, 0), 0);
        due("24 kept: none late", x.shape(0, 1), 0);
    }

    private static void promise24Ends() {
        BurstBounds x = new BurstBounds();
        x.bucket(0, 1);
        int[] most = new int[40];
        most[0] = 40;
        Desk.see(x, most);
        due("24 gone on till 40", x.shape(0, 1), 39);
        due("24 held till then", x.shape(0, 0), 39);
        most[0] = 41;
        Desk.see(x, most);
        due("24 not gone on till 40", x.shape(0, 1), NONE);
        due("24 went on till 40", x.shape(0, 140), 40);
        int[] last = new int[40];
        last[39] = 2;
        Desk.see(x, last);
        due("24 came at the last tick", x.shape(0, 1), NONE);
        due("24 held at the last tick", x.shape(0, 0), 1);
        x.late(30, 9);
        Desk.see(x, 0, 0, 9);
        due("24 late as it is", x.shape(1, 1), 30);
    }

    private static void promise25() {
        BurstBounds x = new BurstBounds();
        x.bucket(5, 3);
        x.late(4, 7);
        due("25 none", x.letIn(0, 1, 0), 0);
        due("25 nearly one", x.letIn(0, 1, 4), 0);
        due("25 one", x.letIn(0, 1, 5), 1);
        due("25 two", x.letIn(0, 1, 9), 2);
        due("25 till waits don't end", x.letIn(0, 1, 40), 3);
        x.bucket(0, 0);
        due("25 nothing comes", x.letIn(2, 1, 0), 99);
        due("25 itself", x.letIn(0, 0, 0), 1);
        x.late(0, 1);
        x.late(0, 99);
        due("25 just 99", x.letIn(3, 4, 0), 99);
        x.late(0, 98);
        due("25 just 98", x.letIn(3, 5, 0), 98);
        int much = x.bucket(9999, 999);
        int all = much;
        for (int i = 0; i < 8; i++) {
            all = x.make(1, all, much);
        }
        due("25 sums are cut", x.letIn(much, all, 1), 99);
        due("25 sums as told", x.letIn(much, all, 0), 9);
        due("25 f", x.letIn(99, 0, 41), UNKNOWN);
        due("25 g", x.letIn(0, -1, 41), UNKNOWN);
        due("25 d above", x.letIn(0, 1, 41), OUTSIDE);
        due("25 d below", x.letIn(0, 1, -1), OUTSIDE);
        due("25 nothing was made", x.many(0), 15);
    }
}
