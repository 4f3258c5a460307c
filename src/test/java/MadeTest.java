/** Promises 35 to 37: made, madeAt, odds. */
final class MadeTest {
    public static void main(String[] args) {
        Check check = new Check();
        things(check);
        meant(check);
        hits(check);
        odds(check);
        check.end();
    }

    /** LOTS as the document tells them, step by step. */
    private static int lot(int m, int seed, int which) {
        int h = (seed ^ 2) * 1103515245 + 12345;
        h = h ^ (h >>> 15);
        h = (h ^ which) * 1103515245 + 12345;
        h = h ^ (h >>> 15);
        return (h >>> 1) % m;
    }

    private static void things(Check check) {
        SkyStones x = new SkyStones();
        int[] seeds = {0, 1, -1, 9, Integer.MIN_VALUE, Integer.MAX_VALUE, 123456789};
        for (int seed : seeds) {
            for (int i = 0; i < 7; i++) {
                int east = 300 + lot(400, seed, 8 * i);
                int north = 300 + lot(400, seed, 8 * i + 1);
                int length = 1 + lot(3, seed, 8 * i + 2);
                int way = lot(360, seed, 8 * i + 3);
                check.due("east " + seed + " " + i, x.madeAt(seed, 7, 0, 2 * i, 0), east);
                check.due("north " + seed + " " + i, x.madeAt(seed, 7, 7, 2 * i, 1), north);
                int other = x.madeAt(seed, 7, 7, 2 * i + 1, 0);
                check.due("other east " + seed + " " + i, other, east + length * x.vector(way, 0));
                other = x.madeAt(seed, i + 1, 0, 2 * i + 1, 1);
                check.due("other north " + seed + " " + i, other, north + length * x.vector(way, 1));
            }
        }
        check.due("no p", x.madeAt(1, 0, 0, 0, 0), -10000);
        check.due("no p", x.madeAt(1, 8, 0, 0, 0), -10000);
        check.due("no m", x.madeAt(1, 2, 3, 0, 0), -10000);
        check.due("m below", x.madeAt(1, 2, -1, 0, 0), -10000);
        check.due("no THING", x.madeAt(1, 2, 0, 4, 0), -10000);
        check.due("THING below", x.madeAt(1, 2, 0, -1, 0), -10000);
        check.due("no what", x.madeAt(1, 2, 0, 0, 2), -10000);
        check.due("what below", x.madeAt(1, 2, 0, 0, -1), -10000);
    }

    private static int way(SkyStones x, int seed, int m, int pair) {
        int east = x.madeAt(seed, 7, m, 2 * pair + 1, 0) - x.madeAt(seed, 7, m, 2 * pair, 0);
        int north = x.madeAt(seed, 7, m, 2 * pair + 1, 1) - x.madeAt(seed, 7, m, 2 * pair, 1);
        return x.degree(east, north);
    }

    private static void meant(Check check) {
        SkyStones x = Check.told("hill 0 359 3;sky p=10+height;sky q=100+year;sky r=200;");
        int[] places = {13, 100, 200};
        for (int seed = 0; seed < 3; seed++) {
            for (int pair = 0; pair < 7; pair++) {
                int due = pair < 4 ? places[lot(3, seed, 8 * pair + 4)] : lot(360, seed, 8 * pair + 3);
                check.due("pair " + pair + " of " + seed, way(x, seed, 4, pair), due);
            }
        }
    }

    private static void hits(Check check) {
        SkyStones x = new SkyStones();
        check.due("no PLACES", x.made(5, 7, 7), 0);
        check.due("no p", x.made(5, 0, 0), -1);
        check.due("no p", x.made(5, 8, 0), -1);
        check.due("no m", x.made(5, 2, 3), -1);
        check.due("m below", x.made(5, 2, -1), -1);
        SkyStones y = Check.told("stone a 0 0 0;count if 1==2;near 0;sky p=77;");
        for (int seed = 0; seed < 10; seed++) {
            check.due("one pair that is meant " + seed, y.made(seed, 1, 1), 1);
        }
        SkyStones z = Check.told("near 20;sky p span 20=0;sky q span 20=72;sky r span 20=144;sky s span 20=216;sky t span 20=288;");
        for (int p = 1; p <= 7; p++) {
            check.due("all hit " + p, z.made(1, p, 0), 2 * p * (2 * p - 1));
        }
        SkyStones w = Check.told("near 3;sky p span 2=50;sky q=300-year;");
        check.due("as counted by hand", w.made(4, 3, 2), byHand(w, 4, 3, 2));
        check.due("as counted by hand", w.made(-4, 7, 5), byHand(w, -4, 7, 5));
    }

    private static int byHand(SkyStones x, int seed, int p, int m) {
        int total = 0;
        for (int a = 0; a < 2 * p; a++) {
            for (int b = 0; b < 2 * p; b++) {
                int east = x.madeAt(seed, p, m, b, 0) - x.madeAt(seed, p, m, a, 0);
                int north = x.madeAt(seed, p, m, b, 1) - x.madeAt(seed, p, m, a, 1);
                int d = x.degree(east, north);
                if (d >= 0 && (d >= 45 && d <= 55 || d >= 297 && d <= 303)) {
                    total++;
                }
            }
        }
        return total;
    }

    private static void odds(Check check) {
        SkyStones x = Check.told("near 3;sky p span 2=50;sky q=300-year;");
        for (int h = -1; h < 12; h++) {
            int due = 0;
            for (int seed = 40; seed < 60; seed++) {
                due += x.made(seed, 4, 2) >= h ? 1 : 0;
            }
            check.due("with " + h, x.odds(40, 4, 2, 20, h), due);
        }
        int wrapped = (x.made(Integer.MAX_VALUE, 4, 2) >= 4 ? 1 : 0) + (x.made(Integer.MIN_VALUE, 4, 2) >= 4 ? 1 : 0);
        check.due("SEEDS that wrap", x.odds(Integer.MAX_VALUE, 4, 2, 2, 4), wrapped);
        check.due("all", x.odds(1, 4, 2, 200, Integer.MIN_VALUE), 200);
        check.due("none", x.odds(1, 4, 2, 200, Integer.MAX_VALUE), 0);
        check.due("no p", x.odds(1, 0, 0, 1, 0), -1);
        check.due("no p", x.odds(1, 8, 0, 1, 0), -1);
        check.due("no m", x.odds(1, 4, 5, 1, 0), -1);
        check.due("m below", x.odds(1, 4, -1, 1, 0), -1);
        check.due("no k", x.odds(1, 4, 0, 0, 0), -1);
        check.due("no k", x.odds(1, 4, 0, 201, 0), -1);
    }
}
