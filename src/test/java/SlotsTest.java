/** Promises 43 to 45: hold, again, count. */
final class SlotsTest {
    private static final String TEXT = "stone a 1 2 3;hole b 4 5 6;door a b;hill 40 50 8;sky p span 2=40+height;near 3;"
        + "count if meant==1;";

    public static void main(String[] args) {
        Check check = new Check();
        wrong(check);
        held(check);
        apart(check);
        nothingTold(check);
        counting(check);
        check.end();
    }

    private static void wrong(Check check) {
        SkyStones x = new SkyStones();
        check.due("hold 3", x.hold(3), false);
        check.due("hold below", x.hold(-1), false);
        check.due("again 3", x.again(3), false);
        check.due("again below", x.again(-1), false);
        for (int slot = 0; slot < 3; slot++) {
            check.due("again of nothing " + slot, x.again(slot), false);
        }
        check.due("none is held", x.count(9), 0);
    }

    private static void asHeld(Check check, SkyStones x) {
        int[] counts = {3, 1, 1, 1, 1, 3, 2};
        for (int what = 0; what < counts.length; what++) {
            check.due("count " + what, x.count(what), counts[what]);
        }
        check.due("east", x.thing(0, 0, 0), 1);
        check.due("moved", x.thing(0, 0, 2), 100);
        check.due("found", x.thing(2, 2, 2), 9);
        check.due("rise", x.rise(0, 0), 48);
        check.due("height", x.height(50), 8);
        check.due("COUNTS", x.line(1, 7, 2), 1);
        check.due("COUNTS not", x.line(14, 7, 2), 0);
        check.due("NEAR and SPAN", x.hit(1, 0, 0, 0), 1);
    }

    private static void held(Check check) {
        SkyStones x = Check.told(TEXT);
        x.found(7, 8, 9);
        x.move(0, 100, 200);
        x.site(10, 20);
        asHeld(check, x);
        check.due("hold", x.hold(1), true);
        check.due("one is held", x.count(9), 1);
        x.site(11, 20);
        check.due("a fault", Check.tell(x, "near 1"), 1);
        check.due("a text", Check.tell(x, "stone q 9 9 9;stone r 8 8 8;sky s=1;sky t=2;count if 1==2;count if 1==1;"), 0);
        x.gone(0);
        Check.put(x, Check.bytes("near 9;"));
        check.due("again", x.again(1), true);
        asHeld(check, x);
        check.due("SITES are aside", x.count(7), 2);
        check.due("the tape is as it was", x.count(8), 7);
        check.due("it stays there", x.count(9), 1);
        x.gone(0);
        x.date(1, 77);
        check.due("again once more", x.again(1), true);
        asHeld(check, x);
        check.due("another SLOT", x.again(0), false);
        check.due("the tape is read", x.read(), 0);
        check.due("the text on it", x.count(5), 9);
    }

    private static void apart(Check check) {
        SkyStones x = Check.told("near 4;");
        x.hold(0);
        Check.tell(x, "near 5;stone a 1 1 1;");
        x.hold(1);
        x.hold(2);
        check.due("all are held", x.count(9), 3);
        Check.tell(x, "near 6;");
        x.hold(1);
        check.due("again 0", x.again(0), true);
        check.due("near 4", x.count(5), 4);
        check.due("again 1", x.again(1), true);
        check.due("near 6", x.count(5), 6);
        check.due("again 2", x.again(2), true);
        check.due("near 5", x.count(5), 5);
        check.due("still three", x.count(9), 3);
    }

    private static void nothingTold(Check check) {
        SkyStones x = new SkyStones();
        check.due("hold of nothing told", x.hold(0), true);
        check.due("it is held", x.count(9), 1);
        Check.tell(x, TEXT);
        check.due("place", x.place(), -1);
        check.due("fault", Check.tell(x, "!"), 1);
        check.due("again", x.again(0), true);
        check.due("THINGS", x.count(0), 0);
        check.due("NEAR", x.count(5), 2);
        check.due("the latest FAULT's place", x.place(), 0);
    }

    private static void counting(Check check) {
        SkyStones x = Check.told(TEXT);
        x.found(7, 8, 9);
        x.annul(0);
        x.site(1, 1);
        x.feed(0, 0, 0, 0, 0);
        x.hold(2);
        int[] due = {3, 1, 1, 1, 1, 3, 2, 1, 20, 1};
        for (int what = 0; what < due.length; what++) {
            check.due("count " + what, x.count(what), due[what]);
        }
        check.due("count 10", x.count(10), -1);
        check.due("count below", x.count(-1), -1);
        check.due("far below", x.count(Integer.MIN_VALUE), -1);
    }
}
