/** Promises 6 to 11: found, move, gone, date, annul, thing. */
final class FactsTest {
    private static final String TWO = "stone a 10 20 30;hole b 40 50 60;";

    public static void main(String[] args) {
        Check check = new Check();
        finding(check);
        moving(check);
        going(check);
        dating(check);
        annulling(check);
        sixty(check);
        wrongAsking(check);
        check.end();
    }

    private static void thing(Check check, SkyStones x, int thing, int n, int... due) {
        for (int what = 0; what < due.length; what++) {
            check.due("thing " + thing + " what " + what + " n " + n, x.thing(thing, what, n), due[what]);
        }
    }

    private static void finding(Check check) {
        SkyStones x = Check.told(TWO);
        check.due("no east", x.found(1000, 0, 0), -1);
        check.due("east below", x.found(-1, 0, 0), -1);
        check.due("no north", x.found(0, 1000, 0), -1);
        check.due("north below", x.found(0, -1, 0), -1);
        check.due("no age", x.found(0, 0, 10000), -1);
        check.due("age below", x.found(0, 0, -1), -1);
        check.due("no FACTS", x.count(6), 0);
        check.due("found", x.found(999, 999, 9999), 2);
        check.due("at another's place", x.found(10, 20, 0), 3);
        check.due("FACTS", x.count(6), 2);
        check.due("THINGS", x.count(0), 4);
        thing(check, x, 2, 0, 999, 999, 9999, 0, 1);
        thing(check, x, 2, 1, 999, 999, 9999, 0, 0);
        thing(check, x, 3, 1, 10, 20, 0, 0, 1);
        thing(check, x, 3, 2, 10, 20, 0, 0, 0);
        check.due("none between two at one place", x.line(3, 0, 2), -1);
        for (int i = 4; i < 14; i++) {
            check.due("found " + i, x.found(i, i, i), i);
        }
        check.due("a 15th", x.found(1, 2, 3), -1);
        check.due("14", x.count(0), 14);
        SkyStones y = new SkyStones();
        check.due("found with nothing told", y.found(0, 0, 0), 0);
    }

    private static void moving(Check check) {
        SkyStones x = Check.told(TWO);
        check.due("no THING", x.move(2, 1, 1), -1);
        check.due("THING below", x.move(-1, 1, 1), -1);
        check.due("no east", x.move(0, 1000, 1), -1);
        check.due("no north", x.move(0, 1, 1000), -1);
        check.due("east below", x.move(0, -1, 1), -1);
        check.due("north below", x.move(0, 1, -1), -1);
        check.due("nothing happened", x.count(6), 0);
        check.due("first", x.move(0, 1, 2), 0);
        check.due("second", x.move(0, 3, 4), 1);
        check.due("of b", x.move(1, 999, 0), 2);
        thing(check, x, 0, 0, 10, 20, 30, 1, 0);
        thing(check, x, 0, 1, 1, 2, 30, 1, 0);
        thing(check, x, 0, 2, 3, 4, 30, 1, 0);
        thing(check, x, 1, 2, 40, 50, 60, 0, 0);
        thing(check, x, 1, 3, 999, 0, 60, 0, 0);
        check.due("void the second", x.annul(1), 3);
        thing(check, x, 0, 3, 3, 4, 30, 1, 0);
        thing(check, x, 0, 4, 1, 2, 30, 1, 0);
        x.found(7, 8, 9);
        check.due("a FOUND one", x.move(2, 70, 80), 5);
        thing(check, x, 2, 5, 7, 8, 9, 0, 0);
        thing(check, x, 2, 6, 70, 80, 9, 0, 0);
    }

    private static void going(Check check) {
        SkyStones x = Check.told(TWO);
        check.due("no THING", x.gone(2), -1);
        check.due("below", x.gone(-1), -1);
        check.due("gone", x.gone(0), 0);
        check.due("gone again", x.gone(0), 1);
        thing(check, x, 0, 0, 10, 20, 30, 1, 0);
        thing(check, x, 0, 1, 10, 20, 30, 1, 1);
        check.due("void the first", x.annul(0), 2);
        check.due("still GONE", x.thing(0, 4, 3), 1);
        check.due("void the second", x.annul(1), 3);
        check.due("there again", x.thing(0, 4, 4), 0);
        check.due("not for those who do not KNOW", x.thing(0, 4, 3), 1);
        check.due("moved while GONE", x.gone(1), 4);
        check.due("moved while GONE", x.move(1, 5, 6), 5);
        thing(check, x, 1, 6, 5, 6, 60, 0, 1);
    }

    private static void dating(Check check) {
        SkyStones x = Check.told(TWO);
        check.due("no THING", x.date(2, 1), -1);
        check.due("no age", x.date(0, 10000), -1);
        check.due("age below", x.date(0, -1), -1);
        check.due("dated", x.date(0, 9999), 0);
        check.due("dated again", x.date(0, 0), 1);
        thing(check, x, 0, 0, 10, 20, 30);
        thing(check, x, 0, 1, 10, 20, 9999);
        thing(check, x, 0, 2, 10, 20, 0);
        x.annul(1);
        thing(check, x, 0, 3, 10, 20, 9999);
        x.annul(0);
        thing(check, x, 0, 4, 10, 20, 30);
    }

    private static void annulling(Check check) {
        SkyStones x = Check.told(TWO);
        check.due("no FACT", x.annul(0), -1);
        check.due("below", x.annul(-1), -1);
        check.due("found", x.found(1, 1, 1), 2);
        check.due("void", x.annul(0), 1);
        check.due("a VOID", x.annul(1), -1);
        check.due("no such yet", x.annul(2), -1);
        check.due("void twice", x.annul(0), 2);
        check.due("the FOUND one is GONE", x.thing(2, 4, 2), 1);
        check.due("but for those ahead", x.thing(2, 4, 1), 0);
        check.due("its number stays", x.count(0), 3);
        check.due("the next one", x.found(2, 2, 2), 3);
        check.due("a THING still", x.date(2, 77), 4);
        check.due("dated", x.thing(2, 2, 5), 77);
    }

    private static void sixty(Check check) {
        SkyStones x = Check.told(TWO);
        for (int i = 0; i < 59; i++) {
            check.due("FACT " + i, x.move(0, i, i), i);
        }
        check.due("the 60th", x.gone(1), 59);
        check.due("found", x.found(1, 1, 1), -1);
        check.due("move", x.move(0, 1, 1), -1);
        check.due("gone", x.gone(0), -1);
        check.due("date", x.date(0, 1), -1);
        check.due("annul", x.annul(0), -1);
        check.due("FACTS", x.count(6), 60);
        check.due("THINGS", x.count(0), 2);
        check.due("KNOWN by 59", x.thing(0, 0, 59), 58);
        check.due("KNOWN by 60", x.thing(1, 4, 60), 1);
        check.due("KNOWN by 61", x.thing(1, 4, 61), -1);
    }

    private static void wrongAsking(Check check) {
        SkyStones x = Check.told(TWO);
        check.due("no THING", x.thing(2, 0, 0), -1);
        check.due("THING below", x.thing(-1, 0, 0), -1);
        check.due("no what", x.thing(0, 5, 0), -1);
        check.due("what below", x.thing(0, -1, 0), -1);
        check.due("no n", x.thing(0, 0, 1), -1);
        check.due("n below", x.thing(0, 0, -1), -1);
    }
}
