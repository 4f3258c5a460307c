/** Promises 38 to 41: counts, anything, life, seen. */
final class RingsTest {
    public static void main(String[] args) {
        Check check = new Check();
        counts(check);
        anything(check);
        life(check);
        seen(check);
        check.end();
    }

    private static void counts(Check check) {
        SkyStones x = new SkyStones();
        check.due("56 by 3 in 18", x.counts(56, 3, 1, 18, 0), 0);
        check.due("apart by 2, 3 at most", x.counts(56, 3, 1, 18, 1), 1);
        check.due("apart by 4", x.counts(56, 3, 1, 20, 1), 0);
        check.due("apart by 3", x.counts(57, 3, 1, 20, 1), 1);
        check.due("just so", x.counts(56, 2, 1, 28, 0), 1);
        check.due("more days", x.counts(56, 2, 13, 364, 0), 1);
        check.due("the most", x.counts(100, 1, 100, 9999, 1), 1);
        check.due("the most", x.counts(100, 1, 100, 9999, 0), 0);
        check.due("far", x.counts(1, 100, 1, 9999, 99), 0);
        int[] good = {56, 3, 1, 18, 1};
        int[] low = {1, 1, 1, 1, 0};
        int[] high = {100, 100, 100, 9999, 99};
        for (int i = 0; i < 5; i++) {
            for (int edge = 0; edge < 4; edge++) {
                int[] a = good.clone();
                a[i] = edge == 0 ? low[i] : edge == 1 ? high[i] : edge == 2 ? low[i] - 1 : high[i] + 1;
                int got = x.counts(a[0], a[1], a[2], a[3], a[4]);
                check.due("argument " + i + " is " + a[i], got == -1, edge > 1);
            }
        }
    }

    private static void anything(Check check) {
        SkyStones x = new SkyStones();
        check.due("56 alone", x.anything(56, 1, 1, 0, 56), 1);
        check.due("not 56", x.anything(56, 1, 1, 0, 55), 0);
        check.due("53 .. 59", x.anything(56, 1, 1, 3, 2000), 7);
        check.due("53 .. 55", x.anything(56, 1, 1, 3, 55), 3);
        check.due("1 .. 10", x.anything(1, 1, 1, 9, 2000), 10);
        check.due("56, 28, 18 and 19", x.anything(56, 3, 1, 0, 100), 2);
        check.due("56, 28; within 1", x.anything(56, 3, 1, 1, 100), 3 + 3 + 2);
        check.due("the most", x.anything(100, 1, 20, 0, 2000), 20);
        check.due("but one", x.anything(100, 1, 20, 0, 1999), 19);
        check.due("the first", x.anything(1, 1, 1, 0, 1), 1);
        int[] good = {56, 3, 2, 1, 100};
        int[] low = {1, 1, 1, 0, 1};
        int[] high = {100, 20, 20, 9, 2000};
        for (int i = 0; i < 5; i++) {
            for (int edge = 0; edge < 4; edge++) {
                int[] a = good.clone();
                a[i] = edge == 0 ? low[i] : edge == 1 ? high[i] : edge == 2 ? low[i] - 1 : high[i] + 1;
                int due = 0;
                for (int round = 1; round <= a[4] && edge < 2; round++) {
                    due += some(x, a, round) ? 1 : 0;
                }
                int got = x.anything(a[0], a[1], a[2], a[3], a[4]);
                check.due("argument " + i + " is " + a[i], got, edge < 2 ? due : -1);
            }
        }
    }

    private static boolean some(SkyStones x, int[] a, int round) {
        for (int m = 1; m <= a[1]; m++) {
            for (int d = 1; d <= a[2]; d++) {
                if (x.counts(a[0], m, d, round, a[3]) == 1) {
                    return true;
                }
            }
        }
        return false;
    }

    private static void life(Check check) {
        SkyStones x = new SkyStones();
        check.due("0", x.life(0, 1, 19, 0), 1);
        check.due("0 and 19", x.life(0, 20, 19, 0), 2);
        check.due("0 alone", x.life(0, 19, 19, 0), 1);
        check.due("18", x.life(0, 19, 19, 18), 1);
        check.due("not yet", x.life(0, 18, 19, 18), 0);
        check.due("every other", x.life(1, 90, 2, 0), 45);
        check.due("5000 and on", x.life(5000, 90, 60, 59), 1);
        check.due("5000", x.life(5000, 1, 50, 0), 1);
        check.due("no YEAR", x.life(5001, 1, 2, 0), -1);
        check.due("YEAR below", x.life(-1, 1, 2, 0), -1);
        check.due("no L", x.life(0, 0, 2, 0), -1);
        check.due("no L", x.life(0, 91, 2, 0), -1);
        check.due("no R", x.life(0, 1, 1, 0), -1);
        check.due("no R", x.life(0, 1, 61, 0), -1);
        check.due("no R at all", x.life(0, 1, 0, 0), -1);
        check.due("no c", x.life(0, 1, 2, 2), -1);
        check.due("c below", x.life(0, 1, 2, -1), -1);
    }

    private static void seen(Check check) {
        SkyStones x = new SkyStones();
        check.due("two of three", x.seen(3, 2, 1, 2), 4);
        check.due("one of three", x.seen(3, 1, 2, 3), 27 - 1);
        check.due("all of three", x.seen(3, 3, 2, 3), 8);
        check.due("any", x.seen(12, 0, 3, 9), 282429536481L);
        check.due("never seen", x.seen(5, 1, 0, 7), 0);
        check.due("never seen, none asked", x.seen(5, 0, 0, 7), 16807);
        check.due("ever seen", x.seen(12, 12, 9, 9), 282429536481L);
        check.due("13 of 12", x.seen(12, 13, 9, 9), 0);
        check.due("nothing comes", x.seen(0, 0, 1, 1), 1);
        check.due("nothing comes, one asked", x.seen(0, 1, 1, 1), 0);
        check.due("no n", x.seen(13, 0, 1, 2), -1);
        check.due("n below", x.seen(-1, 0, 1, 2), -1);
        check.due("no k", x.seen(1, 14, 1, 2), -1);
        check.due("k below", x.seen(1, -1, 1, 2), -1);
        check.due("no b", x.seen(1, 1, 0, 0), -1);
        check.due("no b", x.seen(1, 1, 1, 10), -1);
        check.due("no a", x.seen(1, 1, 3, 2), -1);
        check.due("a below", x.seen(1, 1, -1, 2), -1);
    }
}
