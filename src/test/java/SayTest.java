/** Promise 42: say. */
final class SayTest {
    /** LINES 1: 0 (meant), 14: 180 (back), 2: 90, 28: 270, 16: 135, 29: 315. */
    private static final String THREE = "stone a 0 0 0;stone b 0 10 0;hole c 10 0 0;door a b;";

    public static void main(String[] args) {
        Check check = new Check();
        each(check);
        edges(check);
        wrong(check);
        check.end();
    }

    private static void each(Check check) {
        SkyStones x = Check.told(THREE + "near 0;count if degree!=315;sky p=year;");
        check.due("none such", x.say(0, 0, 0), 0);
        check.due("none such", x.say(195, 0, 0), 0);
        check.due("does not COUNT", x.say(29, 0, 0), 1);
        check.due("does not COUNT, though it would hit", x.say(29, 315, 0), 1);
        check.due("hits nothing", x.say(2, 0, 0), 2);
        check.due("neither meant nor back", x.say(2, 90, 0), 4);
        check.due("meant, SURELY", x.say(1, 0, 0), 6);
        check.due("back, SURELY", x.say(14, 180, 0), 6);
        x.gone(2);
        check.due("GONE", x.say(2, 90, 1), 0);
        check.due("not yet", x.say(2, 90, 0), 4);
        SkyStones y = Check.told(THREE + "near 0;sky p span 1=1;");
        check.due("MAYBE alone", y.say(1, 0, 0), 5);
        SkyStones z = Check.told(THREE + "near 1;sky p span 1=2;sky q=1;");
        check.due("one MAYBE, another SURELY; too many", z.say(1, 0, 0), 3);
        SkyStones w = Check.told(THREE + "near 0;sky p span 1=1;sky q=0;");
        check.due("one MAYBE, another SURELY", w.say(1, 0, 0), 6);
        SkyStones none = Check.told(THREE);
        check.due("no PLACES", none.say(1, 0, 0), 2);
    }

    /** Of one LINE that COUNTS, NEAR and a SPAN are hit in 2 * (NEAR + SPAN) + 1 turns. */
    private static void edges(Check check) {
        for (int near = 7; near < 11; near++) {
            SkyStones x = Check.told(THREE + "count if degree==0;near " + near + ";sky p=" + near + ";");
            check.due("near " + near, x.say(1, 0, 0), 2 * near + 1 > 18 ? 3 : 6);
        }
        SkyStones x = Check.told(THREE + "count if degree==0 or degree==180;near 4;sky p=4;");
        check.due("18 are not more than 18", x.say(1, 0, 0), 6);
        SkyStones y = Check.told(THREE + "count if degree==0 or degree==180;near 4;sky p=4;sky q=9;");
        check.due("of all PLACES", y.say(1, 0, 0), 3);
    }

    private static void wrong(Check check) {
        SkyStones x = Check.told(THREE + "sky p=0;");
        check.due("no number", x.say(196, 0, 0), -1);
        check.due("below", x.say(-1, 0, 0), -1);
        check.due("no YEAR", x.say(1, 5001, 0), -1);
        check.due("YEAR below", x.say(1, -1, 0), -1);
        check.due("no n", x.say(1, 0, 1), -1);
        check.due("n below", x.say(1, 0, -1), -1);
    }
}
