/** Promises 26 to 30: story, otherwise, free, freer, next. */
final class StoriesTest {
    /** LINES 1: 0, 14: 180, 2: 90, 28: 270, 16: 135, 29: 315. */
    private static final String THREE = "stone a 0 0 0;stone b 0 10 0;hole c 10 0 0;";

    public static void main(String[] args) {
        Check check = new Check();
        story(check);
        otherwise(check);
        free(check);
        freer(check);
        next(check);
        check.end();
    }

    private static void story(Check check) {
        SkyStones x = Check.told(THREE + "count if stones==2;count if degree==90 or degree==91;count if 1==2;sky p=0;sky q=year;");
        check.due("LINES", x.story(0, 1, 0, 0, 0), 2);
        check.due("HITS", x.story(0, 1, 0, 0, 1), 1);
        check.due("AS MANY", x.story(0, 1, 0, 0, 2), 10);
        check.due("LINES of the next", x.story(1, 3, 90, 0, 0), 1);
        check.due("HITS of the next", x.story(1, 3, 90, 0, 1), 1);
        check.due("AS MANY of the next", x.story(1, 3, 90, 0, 2), 10);
        check.due("HITS of the next, less", x.story(1, 1, 90, 0, 1), 0);
        check.due("AS MANY of the next, less", x.story(1, 1, 90, 0, 2), 360);
        check.due("LINES of none", x.story(2, 3, 0, 0, 0), 0);
        check.due("AS MANY of none", x.story(2, 3, 0, 0, 2), 360);
        check.due("no PLACES", x.story(0, 0, 0, 0, 2), 360);
        check.due("no RULE", x.story(3, 1, 0, 0, 0), -1);
        check.due("RULE below", x.story(-1, 1, 0, 0, 0), -1);
        check.due("no set", x.story(0, 4, 0, 0, 0), -1);
        check.due("set below", x.story(0, -1, 0, 0, 0), -1);
        check.due("no YEAR", x.story(0, 1, 5001, 0, 0), -1);
        check.due("YEAR below", x.story(0, 1, -1, 0, 0), -1);
        check.due("no n", x.story(0, 1, 0, 1, 0), -1);
        check.due("n below", x.story(0, 1, 0, -1, 0), -1);
        check.due("no what", x.story(0, 1, 0, 0, 3), -1);
        check.due("what below", x.story(0, 1, 0, 0, -1), -1);
        SkyStones y = Check.told(THREE + "sky p=0;");
        check.due("without RULES", y.story(0, 1, 0, 0, 0), -1);
    }

    private static void otherwise(Check check) {
        SkyStones x = Check.told(THREE + "count if gap<5;sky p=0;sky q=90;");
        x.gone(1);
        x.annul(0);
        x.date(2, 100);
        x.move(1, 1, 500);
        check.due("a b is none", x.otherwise(3, 0, 0, 1), 1);
        check.due("not the other way", x.otherwise(3, 0, 1, 0), 0);
        check.due("b is there again", x.otherwise(3, 0, 2, 1), 1);
        check.due("a c does not COUNT", x.otherwise(3, 0, 2, 3), 1);
        check.due("of p", x.otherwise(1, 0, 2, 3), 0);
        check.due("hits still", x.otherwise(3, 0, 3, 4), 0);
        check.due("with itself", x.otherwise(3, 0, 4, 4), 0);
        check.due("none", x.otherwise(0, 0, 0, 1), 0);
        check.due("no set", x.otherwise(4, 0, 0, 1), -1);
        check.due("set below", x.otherwise(-1, 0, 0, 1), -1);
        check.due("no YEAR", x.otherwise(3, 5001, 0, 1), -1);
        check.due("YEAR below", x.otherwise(3, -1, 0, 1), -1);
        check.due("no n", x.otherwise(3, 0, 5, 1), -1);
        check.due("n below", x.otherwise(3, 0, -1, 1), -1);
        check.due("no m", x.otherwise(3, 0, 0, 5), -1);
        check.due("m below", x.otherwise(3, 0, 0, -1), -1);
    }

    private static void free(Check check) {
        SkyStones x = Check.told(THREE + "near 0;sky p=year;sky q=year*2+90;");
        check.due("from 1", x.free(1, 0, 1, 1, 100), 90);
        check.due("the first of alike ones", x.free(1, 0, 91, 1, 200), 135);
        check.due("none hits: the first", x.free(1, 0, 1, 1, 50), 1);
        check.due("the most", x.free(3, 0, 1, 1, 200), 90);
        check.due("by 7", x.free(1, 0, 83, 7, 10), 90);
        check.due("no PLACES", x.free(0, 0, 33, 1, 10), 33);
        check.due("one YEAR", x.free(1, 0, 5000, 100, 1), 5000);
        check.due("up to 5000", x.free(1, 0, 4900, 100, 2), 4900);
        check.due("YEARS above", x.free(1, 0, 4901, 100, 2), -1);
        check.due("YEARS above", x.free(1, 0, 5000, 1, 2), -1);
        check.due("no YEAR", x.free(1, 0, 5001, 1, 1), -1);
        check.due("YEAR below", x.free(1, 0, -1, 1, 1), -1);
        check.due("no set", x.free(4, 0, 0, 1, 1), -1);
        check.due("set below", x.free(-1, 0, 0, 1, 1), -1);
        check.due("no n", x.free(1, 1, 0, 1, 1), -1);
        check.due("n below", x.free(1, -1, 0, 1, 1), -1);
        check.due("no s", x.free(1, 0, 0, 0, 1), -1);
        check.due("no s", x.free(1, 0, 0, 101, 1), -1);
        check.due("no k", x.free(1, 0, 0, 1, 0), -1);
        check.due("no k", x.free(1, 0, 0, 1, 201), -1);
        x.gone(2);
        check.due("without c", x.free(1, 1, 1, 1, 200), 180);
    }

    private static void freer(Check check) {
        SkyStones x = Check.told(THREE + "near 0;sky p=year;");
        check.due("as one", x.freer(1, 0, 1, 1, 200, 0), 3);
        check.due("as none", x.freer(1, 0, 1, 1, 200, 1), 200);
        check.due("by 45", x.freer(1, 0, 0, 45, 9, 90), 7);
        check.due("the told YEAR is outside", x.freer(1, 0, 91, 1, 40, 90), 0);
        check.due("no PLACES", x.freer(0, 0, 0, 1, 10, 0), 10);
        check.due("YEARS above", x.freer(1, 0, 4901, 100, 2, 0), -1);
        check.due("no YEAR", x.freer(1, 0, 0, 1, 1, 5001), -1);
        check.due("YEAR below", x.freer(1, 0, 0, 1, 1, -1), -1);
        check.due("no a", x.freer(1, 0, 5001, 1, 1, 0), -1);
        check.due("a below", x.freer(1, 0, -1, 1, 1, 0), -1);
        check.due("no set", x.freer(2, 0, 0, 1, 1, 0), -1);
        check.due("no n", x.freer(1, 1, 0, 1, 1, 0), -1);
        check.due("no s", x.freer(1, 0, 0, 0, 1, 0), -1);
        check.due("no s", x.freer(1, 0, 0, 101, 1, 0), -1);
        check.due("no k", x.freer(1, 0, 0, 1, 0, 0), -1);
        check.due("no k", x.freer(1, 0, 0, 1, 201, 0), -1);
    }

    private static void next(Check check) {
        SkyStones x = Check.told(THREE + "near 0;sky p=90;sky q=135;sky r=0;");
        check.due("c: two of two", x.next(3, 0, 0), 2);
        check.due("a: of alike ones", x.next(7, 0, 0), 0);
        check.due("b and c", x.next(2, 0, 0), 1);
        check.due("nothing hits", x.next(0, 0, 0), 0);
        check.due("no set", x.next(8, 0, 0), -1);
        check.due("set below", x.next(-1, 0, 0), -1);
        check.due("no YEAR", x.next(1, 5001, 0), -1);
        check.due("YEAR below", x.next(1, -1, 0), -1);
        check.due("no n", x.next(1, 0, 1), -1);
        check.due("n below", x.next(1, 0, -1), -1);
        x.gone(0);
        check.due("a is GONE", x.next(0, 0, 1), 1);
        x.gone(1);
        x.gone(2);
        check.due("all are GONE", x.next(7, 0, 3), -2);
        SkyStones y = new SkyStones();
        check.due("no THINGS", y.next(0, 0, 0), -2);
        check.due("no THINGS, no set", y.next(1, 0, 0), -1);
    }
}
