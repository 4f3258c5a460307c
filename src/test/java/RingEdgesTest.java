/** V, RINGS, ANYTHING, IN A LIFE, SEEN, and promises 38 to 41: each sentence that names an edge. */
final class RingEdgesTest {
    private static final SkyStones X = new SkyStones();

    public static void main(String[] args) {
        Sentences s = new Sentences();
        counts(s);
        anything(s);
        life(s);
        seen(s);
        s.end();
    }

    private static void counts(Sentences s, String sentence, int h, int m, int d, int round, int e, int due) {
        s.holds("38: " + sentence, c -> c.due("counts", X.counts(h, m, d, round, e), due));
    }

    private static void counts(Sentences s) {
        counts(s, "alike, e 0", 56, 2, 1, 28, 0, 1);
        counts(s, "apart by 1, e 0", 57, 2, 1, 28, 0, 0);
        counts(s, "apart by e * m, above", 58, 2, 1, 28, 1, 1);
        counts(s, "apart by one more, above", 59, 2, 1, 28, 1, 0);
        counts(s, "apart by e * m, below", 54, 2, 1, 28, 1, 1);
        counts(s, "apart by one more, below", 53, 2, 1, 28, 1, 0);
        counts(s, "the most of all", 100, 100, 100, 9999, 99, 0);
        counts(s, "the most that are alike", 100, 1, 100, 9901, 99, 1);
        counts(s, "the most that are alike, one more", 100, 1, 100, 9900, 99, 0);
        counts(s, "the least of all", 1, 1, 1, 1, 0, 1);
        counts(s, "H 1, m 100, ROUND 1, within 99: apart by 99", 1, 100, 1, 1, 99, 1);
        counts(s, "H 1, m 100, ROUND 100, within 99: apart by 9999", 1, 100, 1, 100, 99, 0);
        s.bounds("38: counts: H", 1, 100, -1, v -> X.counts(v, 3, 1, 18, 1));
        s.bounds("38: counts: m", 1, 100, -1, v -> X.counts(56, v, 1, 18, 1));
        s.bounds("38: counts: d", 1, 100, -1, v -> X.counts(56, 3, v, 18, 1));
        s.bounds("38: counts: the ROUND", 1, 9999, -1, v -> X.counts(56, 3, 1, v, 1));
        s.bounds("38: counts: e", 0, 99, -1, v -> X.counts(56, 3, 1, 18, v));
    }

    private static void anything(Sentences s, String sentence, int[] a, int due) {
        s.holds("39: " + sentence, c -> c.due("anything", X.anything(a[0], a[1], a[2], a[3], a[4]), due));
    }

    private static void anything(Sentences s) {
        anything(s, "the ROUND is N", new int[] {56, 1, 1, 0, 56}, 1);
        anything(s, "the ROUND is one above N", new int[] {56, 1, 1, 0, 55}, 0);
        anything(s, "within e, both ways", new int[] {56, 1, 1, 9, 2000}, 19);
        anything(s, "ROUNDS from 1 on, not 0 and below", new int[] {1, 1, 1, 9, 2000}, 10);
        anything(s, "ROUNDS from 1 on, N 1", new int[] {1, 1, 1, 9, 1}, 1);
        anything(s, "ROUNDS up to N, 2000", new int[] {100, 1, 20, 0, 2000}, 20);
        anything(s, "ROUNDS up to N, 1999", new int[] {100, 1, 20, 0, 1999}, 19);
        anything(s, "ROUNDS up to N, within e of 2000", new int[] {100, 1, 20, 9, 2000}, 19 * 19 + 10);
        anything(s, "some marker: one by two counts once", new int[] {10, 1, 2, 9, 2000}, 29);
        anything(s, "m 1 .. M", new int[] {60, 3, 1, 0, 2000}, 3);
        anything(s, "m 1 .. M, of which one does not come out even", new int[] {60, 7, 1, 0, 2000}, 6);
        anything(s, "d 1 .. D", new int[] {60, 1, 3, 0, 2000}, 3);
        anything(s, "within e of what is no whole number", new int[] {5, 2, 1, 1, 2000}, 5);
        anything(s, "all of 1 .. N", new int[] {1, 20, 20, 9, 20}, 20);
        s.holds("39: as counts tells of each marker", c -> {
            int due = 0;
            for (int round = 1; round <= 60; round++) {
                boolean any = false;
                for (int m = 1; m <= 3; m++) {
                    for (int d = 1; d <= 2; d++) {
                        any |= new SkyStones().counts(17, m, d, round, 2) == 1;
                    }
                }
                due += any ? 1 : 0;
            }
            c.due("anything", X.anything(17, 3, 2, 2, 60), due);
        });
        s.bounds("39: anything: H", 1, 100, -1, v -> X.anything(v, 1, 1, 0, 9));
        s.bounds("39: anything: M", 1, 20, -1, v -> X.anything(56, v, 1, 0, 9));
        s.bounds("39: anything: D", 1, 20, -1, v -> X.anything(56, 1, v, 0, 9));
        s.bounds("39: anything: e", 0, 9, -1, v -> X.anything(56, 1, 1, v, 9));
        s.bounds("39: anything: N", 1, 2000, -1, v -> X.anything(56, 1, 1, 0, v));
    }

    private static void life(Sentences s, String sentence, int year, int years, int r, int at, int due) {
        s.holds("40: " + sentence, c -> c.due("life", X.life(year, years, r, at), due));
    }

    private static void life(Sentences s) {
        life(s, "L 1: the YEAR itself", 19, 1, 19, 0, 1);
        life(s, "L 1: not the next one", 18, 1, 19, 0, 0);
        life(s, "L 2: the next one", 18, 2, 19, 0, 1);
        life(s, "a whole number of times: none is one too", 0, 1, 60, 0, 1);
        life(s, "c alone", 59, 1, 60, 59, 1);
        life(s, "c, one ahead of it", 0, 59, 60, 59, 0);
        life(s, "c, just within", 0, 60, 60, 59, 1);
        life(s, "L 90, R 2, c 0", 0, 90, 2, 0, 45);
        life(s, "L 90, R 2, c 1", 0, 90, 2, 1, 45);
        life(s, "L 89, R 2, c 0, from an even YEAR", 0, 89, 2, 0, 45);
        life(s, "L 89, R 2, c 1, from an even YEAR", 0, 89, 2, 1, 44);
        life(s, "L 90, R 60: twice", 0, 90, 60, 0, 2);
        life(s, "L 90, R 60: once", 0, 90, 60, 30, 1);
        life(s, "the last YEAR", 5000, 1, 50, 0, 1);
        life(s, "from the last YEAR on: YEARS of the LIFE go on", 5000, 90, 2, 0, 45);
        s.bounds("40: life: the YEAR", 0, 5000, -1, v -> X.life(v, 1, 2, 0));
        s.bounds("40: life: L", 1, 90, -1, v -> X.life(0, v, 2, 0));
        s.bounds("40: life: R", 2, 60, -1, v -> X.life(0, 1, v, 0));
        s.bounds("40: life: c, R 2", 0, 1, -1, v -> X.life(0, 1, 2, v));
        s.bounds("40: life: c, R 60", 0, 59, -1, v -> X.life(0, 1, 60, v));
        s.holds("40: NONE: R is 0", c -> c.due("life", X.life(0, 1, 0, 0), -1));
    }

    private static void seen(Sentences s, String sentence, int n, int k, int a, int b, long due) {
        s.holds("41: " + sentence, c -> c.due("seen", X.seen(n, k, a, b), due));
    }

    private static void seen(Sentences s) {
        seen(s, "n 0, k 0: one way", 0, 0, 0, 1, 1);
        seen(s, "n 0, k 1: none", 0, 1, 1, 1, 0);
        seen(s, "n 12, k 0: all of 9 to the 12", 12, 0, 4, 9, 282429536481L);
        seen(s, "n 12, k 12: 8 to the 12", 12, 12, 8, 9, 68719476736L);
        seen(s, "n 12, k 13: none", 12, 13, 9, 9, 0);
        seen(s, "k one above n: none", 3, 4, 1, 1, 0);
        seen(s, "k is n", 3, 3, 1, 2, 1);
        seen(s, "k one below n", 3, 2, 1, 2, 4);
        seen(s, "k 1: all but those that see none", 12, 1, 1, 9, 282429536481L - 68719476736L);
        seen(s, "a 0: never seen, k 0", 4, 0, 0, 3, 81);
        seen(s, "a 0: never seen, k 1", 4, 1, 0, 3, 0);
        seen(s, "a is b: ever seen", 4, 4, 3, 3, 81);
        seen(s, "b 1, a 1", 12, 12, 1, 1, 1);
        seen(s, "b 1, a 0", 12, 1, 0, 1, 0);
        s.bounds("41: seen: n", 0, 12, -1, v -> X.seen(v, 0, 1, 2));
        s.bounds("41: seen: k", 0, 13, -1, v -> X.seen(12, v, 1, 2));
        s.bounds("41: seen: a, b 1", 0, 1, -1, v -> X.seen(3, 1, v, 1));
        s.bounds("41: seen: a, b 9", 0, 9, -1, v -> X.seen(3, 1, v, 9));
        s.bounds("41: seen: b", 1, 9, -1, v -> X.seen(3, 1, 0, v));
        s.bounds("41: seen: b, not below a", 4, 9, -1, v -> X.seen(3, 1, 4, v));
    }
}
