/** Promises 31 to 34: site, clear, pointing, chance. */
final class SitesTest {
    public static void main(String[] args) {
        Check check = new Check();
        sites(check);
        pointing(check);
        chance(check);
        check.end();
    }

    private static void sites(Check check) {
        SkyStones x = new SkyStones();
        check.due("no DEGREE", x.site(360, 0), -1);
        check.due("below", x.site(-1, 0), -1);
        check.due("no WAY", x.site(0, 360), -1);
        check.due("WAY below", x.site(0, -1), -1);
        check.due("clear of none", x.clear(), 0);
        for (int i = 0; i < 6; i++) {
            check.due("site " + i, x.site(359 - i, i), i);
        }
        check.due("a 7th", x.site(0, 0), -1);
        check.due("SITES", x.count(7), 6);
        check.due("a text", Check.tell(x, "near 3;"), 0);
        check.due("SITES stay", x.count(7), 6);
        check.due("clear", x.clear(), 6);
        check.due("no SITES", x.count(7), 0);
        check.due("from 0 on", x.site(5, 5), 0);
        check.due("it is the new one", x.pointing(5, 0, false), 1);
    }

    private static void pointing(Check check) {
        SkyStones x = new SkyStones();
        x.site(350, 90);
        x.site(10, 100);
        x.site(0, 270);
        check.due("at 0 by 0", x.pointing(0, 0, false), 1);
        check.due("at 0 by 9", x.pointing(0, 9, false), 1);
        check.due("at 0 by 10", x.pointing(0, 10, false), 3);
        check.due("at 355 by 15", x.pointing(355, 15, false), 3);
        check.due("at 355 by 14", x.pointing(355, 14, false), 2);
        check.due("by land at 0", x.pointing(0, 20, true), 0);
        check.due("by land at 95", x.pointing(95, 5, true), 2);
        check.due("by land at 95 by 4", x.pointing(95, 4, true), 0);
        check.due("at 180 by 20", x.pointing(180, 20, false), 0);
        check.due("no DEGREE", x.pointing(360, 0, false), -1);
        check.due("below", x.pointing(-1, 0, false), -1);
        check.due("no d", x.pointing(0, 21, false), -1);
        check.due("d below", x.pointing(0, -1, true), -1);
    }

    private static void chance(Check check) {
        SkyStones x = new SkyStones();
        check.due("without SITES", x.chance(0, 0), 1);
        x.site(7, 0);
        check.due("one of one", x.chance(7, 0), 1);
        check.due("one of one by 3", x.chance(10, 3), 7);
        check.due("none of one", x.chance(11, 3), 360);
        x.site(200, 7);
        check.due("one of two", x.chance(7, 0), 360 * 360 - 359 * 359);
        check.due("none of two", x.chance(100, 20), 360 * 360);
        check.due("land is not asked", x.chance(200, 1), 360 * 360 - 357 * 357);
        x.site(8, 0);
        check.due("two of three", x.chance(8, 1), 3L * 9 * 357 + 27);
        for (int i = 0; i < 3; i++) {
            x.site(8, 0);
        }
        check.due("five of six", x.chance(8, 20), 6L * 41 * 41 * 41 * 41 * 41 * 319 + 41L * 41 * 41 * 41 * 41 * 41);
        check.due("none of six", x.chance(100, 20), 360L * 360 * 360 * 360 * 360 * 360);
        check.due("no DEGREE", x.chance(360, 0), -1);
        check.due("below", x.chance(-1, 0), -1);
        check.due("no d", x.chance(0, 21), -1);
        check.due("d below", x.chance(0, -1), -1);
    }
}
