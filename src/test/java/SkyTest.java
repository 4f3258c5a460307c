/** Promises 16 to 20: height, rise, hit, hits, hitAt. */
final class SkyTest {
    public static void main(String[] args) {
        Check check = new Check();
        heights(check);
        rises(check);
        oneHit(check);
        severalHits(check);
        check.end();
    }

    private static void heights(Check check) {
        SkyStones x = Check.told("hill 10 20 3;hill 350 5 7;hill 15 15 0;hill 358 2 20;hill 100 99 1;hill 30 40 2;");
        int[][] due = {{10, 1}, {30, 2}, {40, 2}, {41, 1}, {0, 1}, {99, 1}, {100, 1}, {359, 1}};
        for (int[] row : due) {
            check.due("height " + row[0], x.height(row[0]), row[1]);
        }
        SkyStones y = Check.told("hill 10 20 3;hill 350 5 7;hill 15 15 0;hill 358 2 20;");
        int[][] less = {{9, 0}, {10, 3}, {14, 3}, {15, 0}, {16, 3}, {20, 3}, {21, 0}, {349, 0}, {350, 7}, {357, 7},
            {358, 20}, {359, 20}, {0, 20}, {2, 20}, {3, 7}, {5, 7}, {6, 0}};
        for (int[] row : less) {
            check.due("height " + row[0], y.height(row[0]), row[1]);
        }
        check.due("no DEGREE", y.height(360), -1);
        check.due("below", y.height(-1), -1);
    }

    private static void rises(Check check) {
        SkyStones x = Check.told("hill 90 100 5;hill 0 0 9;sky p=90+year/100+height*2;sky q=0-height;sky r=85+height*3;");
        check.due("90 and 10", x.rise(0, 0), 100);
        check.due("99 years", x.rise(0, 99), 100);
        check.due("no hill there", x.rise(0, 1100), 101);
        check.due("the HEIGHT of the first DEGREE", x.rise(0, 1000), 110);
        check.due("below 0", x.rise(1, 7), 351);
        check.due("the hill it comes to does not shift it", x.rise(2, 0), 85);
        check.due("no PLACE", x.rise(3, 0), -1);
        check.due("PLACE below", x.rise(-1, 0), -1);
        check.due("the last YEAR", x.rise(0, 5000), 140);
        check.due("no YEAR", x.rise(0, 5001), -1);
        check.due("YEAR below", x.rise(0, -1), -1);
    }

    /** The LINE's DEGREE is 0, NEAR is 3. */
    private static void hit(Check check, int span, int degree, int due) {
        SkyStones x = Check.told("stone a 0 0 0;stone b 0 9 0;near 3;count if 1==2;sky p span " + span + "=" + degree + ";");
        check.due("span " + span + " degree " + degree, x.hit(1, 0, 0, 0), due);
    }

    private static void oneHit(Check check) {
        hit(check, 0, 0, 2);
        hit(check, 0, 3, 2);
        hit(check, 0, 4, 0);
        hit(check, 0, 357, 2);
        hit(check, 0, 356, 0);
        hit(check, 2, 1, 2);
        hit(check, 2, 2, 1);
        hit(check, 2, 5, 1);
        hit(check, 2, 6, 0);
        hit(check, 2, 355, 1);
        hit(check, 2, 354, 0);
        hit(check, 3, 0, 2);
        hit(check, 3, 1, 1);
        hit(check, 4, 0, 1);
        hit(check, 20, 23, 1);
        hit(check, 20, 24, 0);
        hit(check, 20, 180, 0);
        SkyStones x = Check.told("stone a 0 0 0;stone b 0 9 0;sky p=year;");
        check.due("near by itself", x.hit(1, 0, 2, 0), 2);
        check.due("the other way", x.hit(14, 0, 178, 0), 2);
        check.due("not there", x.hit(1, 0, 3, 0), 0);
        check.due("no LINE", x.hit(0, 0, 0, 0), -1);
        check.due("no LINE", x.hit(2, 0, 0, 0), -1);
        check.due("no number", x.hit(196, 0, 0, 0), -1);
        check.due("number below", x.hit(-1, 0, 0, 0), -1);
        check.due("no PLACE", x.hit(1, 1, 0, 0), -1);
        check.due("PLACE below", x.hit(1, -1, 0, 0), -1);
        check.due("no YEAR", x.hit(1, 0, 5001, 0), -1);
        check.due("YEAR below", x.hit(1, 0, -1, 0), -1);
        check.due("no n", x.hit(1, 0, 0, 1), -1);
        check.due("n below", x.hit(1, 0, 0, -1), -1);
    }

    /** LINES 1: 0, 14: 180, 2: 90, 28: 270, 16: 135, 29: 315, of which 29 does not COUNT. */
    private static void severalHits(Check check) {
        SkyStones x = Check.told("stone a 0 0 0;stone b 0 10 0;stone c 10 0 0;near 1;count if degree!=315;"
            + "sky p=year;sky q span 1=92;sky r span 5=140;");
        check.due("p", x.hits(1, 0, 0, false, 0), 1);
        check.due("p in the YEAR 180", x.hits(1, 180, 0, false, 0), 1);
        check.due("what does not COUNT", x.hits(1, 315, 0, false, 0), 0);
        check.due("q", x.hits(2, 0, 0, false, 0), 1);
        check.due("q surely", x.hits(2, 0, 0, true, 0), 0);
        check.due("all", x.hits(7, 0, 0, false, 0), 3);
        check.due("all surely", x.hits(7, 0, 0, true, 0), 1);
        check.due("one LINE, two PLACES", x.hits(3, 91, 0, false, 0), 1);
        check.due("none", x.hits(0, 0, 0, false, 0), 0);
        check.due("turned by 2", x.hits(2, 0, 2, true, 0), 1);
        check.due("turned by 359", x.hits(1, 359, 359, true, 0), 1);
        check.due("turned by 180", x.hits(1, 0, 180, false, 0), 1);
        check.due("what COUNTS stays", x.hits(1, 0, 45, false, 0), 0);
        check.due("what COUNTS stays", x.hits(1, 0, 225, false, 0), 1);
        check.due("no set", x.hits(8, 0, 0, false, 0), -1);
        check.due("set below", x.hits(-1, 0, 0, false, 0), -1);
        check.due("no YEAR", x.hits(1, 5001, 0, false, 0), -1);
        check.due("YEAR below", x.hits(1, -1, 0, false, 0), -1);
        check.due("no turn", x.hits(1, 0, 360, false, 0), -1);
        check.due("turn below", x.hits(1, 0, -1, false, 0), -1);
        check.due("no n", x.hits(1, 0, 0, false, 1), -1);
        check.due("n below", x.hits(1, 0, 0, false, -1), -1);
        int[] numbers = {1, 2, 16, -1};
        for (int i = 0; i < numbers.length; i++) {
            check.due("hitAt " + i, x.hitAt(7, 0, false, 0, i), numbers[i]);
        }
        check.due("surely", x.hitAt(7, 0, true, 0, 0), 1);
        check.due("surely no more", x.hitAt(7, 0, true, 0, 1), -1);
        check.due("below", x.hitAt(7, 0, false, 0, -1), -1);
        check.due("no set", x.hitAt(8, 0, false, 0, 0), -1);
        check.due("set below", x.hitAt(-1, 0, false, 0, 0), -1);
        check.due("no YEAR", x.hitAt(7, 5001, false, 0, 0), -1);
        check.due("no n", x.hitAt(7, 0, false, 1, 0), -1);
        x.gone(1);
        check.due("without b", x.hits(7, 0, 0, false, 1), 1);
        check.due("with b", x.hits(7, 0, 0, false, 0), 3);
        check.due("without b", x.hitAt(7, 0, false, 1, 0), 2);
    }
}
