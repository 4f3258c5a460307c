/** Promises 1 to 5: a new object, feed, back, read, place. */
final class TapeTest {
    public static void main(String[] args) {
        Check check = new Check();
        newObject(check);
        feeding(check);
        goingBack(check);
        reading(check);
        check.end();
    }

    private static void newObject(Check check) {
        SkyStones x = new SkyStones();
        check.due("NONE", SkyStones.NONE, -1);
        for (int what = 0; what <= 9; what++) {
            check.due("new count " + what, x.count(what), what == 5 ? 2 : 0);
        }
        check.due("new place", x.place(), -1);
        check.due("new lines", x.lines(false, 0), 0);
        check.due("new line", x.line(1, 0, 0), -1);
        check.due("new thing", x.thing(0, 0, 0), -1);
        check.due("new rise", x.rise(0, 0), -1);
        check.due("new height", x.height(0), 0);
        check.due("new again", x.again(0), false);
    }

    private static void feeding(Check check) {
        SkyStones x = new SkyStones();
        for (int i = 1; i <= 100; i++) {
            check.due("feed " + i, x.feed(0x20202020, 0x20202020, 0x20202020, 0x20202020, 0x20202020), 20 * i);
        }
        check.due("feed 101", x.feed(0, 0, 0, 0, 0), -1);
        check.due("full", x.count(8), 2000);
        check.due("back 19", x.back(19), 1981);
        check.due("feed to 2001", x.feed(0, 0, 0, 0, 0), -1);
        check.due("back 1", x.back(1), 1980);
        check.due("feed to 2000", x.feed(0x20202020, 0x20202020, 0x20202020, 0x20202020, 0x2020203B), 2000);
        check.due("read", x.read(), 1);
        check.due("place", x.place(), 1999);
    }

    private static void goingBack(Check check) {
        SkyStones x = new SkyStones();
        check.due("back 0 of none", x.back(0), 0);
        check.due("back 1 of none", x.back(1), -1);
        check.due("back -1", x.back(-1), -1);
        check.due("back least", x.back(Integer.MIN_VALUE), -1);
        x.feed(1, 2, 3, 4, 5);
        check.due("back 21", x.back(21), -1);
        check.due("still 20", x.count(8), 20);
        check.due("back 20", x.back(20), 0);
        check.due("back most", x.back(Integer.MAX_VALUE), -1);
    }

    private static void reading(Check check) {
        SkyStones x = new SkyStones();
        check.due("empty", x.read(), 0);
        check.due("empty place", x.place(), -1);
        check.due("text", Check.tell(x, "near 7;"), 0);
        check.due("near", x.count(5), 7);
        check.due("tape", x.count(8), 0);
        check.due("fault", Check.tell(x, "near 8"), 1);
        check.due("fault's place", x.place(), 6);
        check.due("near stays", x.count(5), 7);
        check.due("place stays", x.place(), 6);
        check.due("empty again", x.read(), 0);
        check.due("no place", x.place(), -1);
        check.due("near is as if not told", x.count(5), 2);
        Check.tell(x, "stone a 1 2 3;");
        x.found(5, 5, 5);
        check.due("a fault keeps FACTS", Check.tell(x, "stone a 1 2 3"), 1);
        check.due("FACTS", x.count(6), 1);
        check.due("a text takes FACTS away", Check.tell(x, "stone a 1 2 3;"), 0);
        check.due("no FACTS", x.count(6), 0);
        check.due("no FOUND", x.count(0), 1);
        // The highest byte of the first comes first, bytes above 127 are no TOKEN.
        SkyStones y = new SkyStones();
        y.feed(0x6E656172, 0x20353B20, 0x20202020, 0x20202020, 0x202020FF);
        check.due("no TOKEN", y.read(), 1);
        check.due("its place", y.place(), 19);
        y.feed(0x6E656172, 0x20353B20, 0x20202020, 0x20202020, 0x20202009);
        check.due("blanks", y.read(), 0);
        check.due("near 5", y.count(5), 5);
    }
}
