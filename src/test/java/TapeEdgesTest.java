/** Promises 1 to 5, each sentence that names an edge. */
final class TapeEdgesTest {
    private static final int BLANKS = 0x20202020;

    public static void main(String[] args) {
        Sentences s = new Sentences();
        newObject(s);
        feed(s);
        back(s);
        read(s);
        place(s);
        s.end();
    }

    private static int blanks(SkyStones x) {
        return x.feed(BLANKS, BLANKS, BLANKS, BLANKS, BLANKS);
    }

    private static SkyStones full() {
        SkyStones x = new SkyStones();
        for (int i = 0; i < 100; i++) {
            blanks(x);
        }
        return x;
    }

    private static void newObject(Sentences s) {
        s.holds("1: nothing is told: no THINGS, DOORS, HILLS, PLACES, RULES", c -> {
            for (int what = 0; what <= 4; what++) {
                c.due("count " + what, new SkyStones().count(what), 0);
            }
        });
        s.holds("1: NEAR is 2 if not told", c -> c.due("NEAR", new SkyStones().count(5), 2));
        s.holds("1: no FACTS, no SITES", c -> {
            c.due("FACTS", new SkyStones().count(6), 0);
            c.due("SITES", new SkyStones().count(7), 0);
        });
        s.holds("1: the tape is empty", c -> c.due("bytes", new SkyStones().count(8), 0));
        s.holds("1: no SLOT holds something", c -> c.due("SLOTS", new SkyStones().count(9), 0));
        s.holds("1: no LINES", c -> c.due("lines", new SkyStones().lines(false, 0), 0));
        s.holds("1: all HEIGHTS are 0", c -> {
            SkyStones x = new SkyStones();
            for (int degree = 0; degree < 360; degree++) {
                c.due("height " + degree, x.height(degree), 0);
            }
        });
        s.holds("1: two objects have nothing to do with one another", c -> {
            SkyStones x = Check.told("stone a 1 2 3;near 7;sky p=1;count if 1==1;");
            x.found(1, 1, 1);
            x.site(1, 1);
            x.hold(0);
            blanks(x);
            String before = Seen.of(x);
            SkyStones y = new SkyStones();
            Check.tell(y, "hole b 4 5 6;near 8;sky q=2;sky r=3;hill 0 9 9;");
            y.gone(0);
            y.site(2, 2);
            y.hold(1);
            c.due("is as it was", Seen.of(x).equals(before), true);
            c.due("a new one then", new SkyStones().count(9), 0);
        });
    }

    private static void feed(Sentences s) {
        s.holds("2: twenty bytes, the highest of a first", c -> {
            SkyStones x = new SkyStones();
            c.due("feed", x.feed(0x686F6C65, 0x20616263, 0x64656667, 0x68203120, 0x3220333B), 20);
            c.due("read", x.read(), 0);
            c.due("east", x.thing(0, 0, 0), 1);
            c.due("north", x.thing(0, 1, 0), 2);
            c.due("age", x.thing(0, 2, 0), 3);
        });
        s.holds("2: they come behind the tape", c -> {
            SkyStones x = new SkyStones();
            x.feed(BLANKS, BLANKS, BLANKS, BLANKS, 0x206E6561);
            x.feed(0x72203137, 0x3B202020, BLANKS, BLANKS, BLANKS);
            c.due("read", x.read(), 0);
            c.due("NEAR", x.count(5), 17);
        });
        s.holds("2: how many it has: 20 of an empty one", c -> c.due("feed", blanks(new SkyStones()), 20));
        s.holds("2: 2,000 are no more than 2,000", c -> {
            SkyStones x = full();
            x.back(20);
            c.due("feed", blanks(x), 2000);
        });
        s.refused("2: NONE, and nothing comes, if it is full", full(), -1, TapeEdgesTest::blanks);
        SkyStones one = full();
        one.back(19);
        s.refused("2: NONE, and nothing comes, if it would have 2,001", one, -1, TapeEdgesTest::blanks);
        s.holds("2: nothing of what was refused comes", c -> {
            SkyStones x = full();
            x.back(19);
            c.due("refused", x.feed(0x21212121, 0x21212121, 0x21212121, 0x21212121, 0x21212121), -1);
            c.due("back to 1980", x.back(1), 1980);
            c.due("feed", blanks(x), 2000);
            c.due("read", x.read(), 0);
        });
        s.holds("2: bytes above 127, of numbers below 0, come as they are", c -> {
            for (int at = 0; at < 20; at++) {
                int[] five = {BLANKS, BLANKS, BLANKS, BLANKS, BLANKS};
                int shift = 24 - at % 4 * 8;
                five[at / 4] = five[at / 4] & ~(255 << shift) | 255 << shift;
                SkyStones x = new SkyStones();
                x.feed(five[0], five[1], five[2], five[3], five[4]);
                c.due("read", x.read(), 1);
                c.due("place", x.place(), at);
            }
        });
    }

    private static SkyStones twenty() {
        SkyStones x = new SkyStones();
        x.feed(0x6E656172, 0x20393B6E, 0x65617220, 0x383B6E65, 0x61722037);
        return x;
    }

    private static void back(Sentences s) {
        s.holds("3: the last n bytes go", c -> {
            SkyStones x = twenty();
            c.due("back", x.back(6), 14);
            c.due("read", x.read(), 0);
            c.due("NEAR", x.count(5), 8);
        });
        s.holds("3: n is 0: none go", c -> c.due("back", twenty().back(0), 20));
        s.holds("3: n is all of them", c -> c.due("back", twenty().back(20), 0));
        s.holds("3: n is 0, of an empty tape", c -> c.due("back", new SkyStones().back(0), 0));
        s.holds("3: all of a full tape", c -> c.due("back", full().back(2000), 0));
        s.refused("3: NONE, and nothing goes, if it has one less", twenty(), -1, x -> x.back(21));
        s.refused("3: NONE, of an empty tape", new SkyStones(), -1, x -> x.back(1));
        s.refused("3: NONE, n is -1", twenty(), -1, x -> x.back(-1));
        s.refused("3: NONE, n is the least", twenty(), -1, x -> x.back(Integer.MIN_VALUE));
        s.refused("3: NONE, n is the most", twenty(), -1, x -> x.back(Integer.MAX_VALUE));
        s.refused("3: NONE, 2,001 of a full tape", full(), -1, x -> x.back(2001));
        s.holds("3: what comes then comes behind what is left", c -> {
            SkyStones x = twenty();
            x.back(15);
            x.feed(0x31363B20, BLANKS, BLANKS, BLANKS, BLANKS);
            c.due("read", x.read(), 0);
            c.due("NEAR", x.count(5), 16);
        });
    }

    private static void read(Sentences s) {
        s.holds("4: the tape is empty then", c -> {
            SkyStones x = Check.told("near 3;");
            c.due("bytes", x.count(8), 0);
        });
        s.holds("4: the tape is empty then, with a FAULT too", c -> {
            SkyStones x = new SkyStones();
            c.due("read", Check.tell(x, "near 3"), 1);
            c.due("bytes", x.count(8), 0);
            c.due("nothing is left of it", Check.tell(x, "near 4;"), 0);
        });
        s.holds("4: an empty tape is a text that tells nothing", c -> {
            SkyStones x = Check.told("near 3;stone a 1 2 3;sky p=1;count if 1==1;hill 1 2 3;");
            x.found(1, 1, 1);
            c.due("read", x.read(), 0);
            for (int what = 0; what <= 6; what++) {
                c.due("count " + what, x.count(what), what == 5 ? 2 : 0);
            }
        });
        s.holds("4: a text of 2,000 bytes", c -> {
            SkyStones x = full();
            x.back(20);
            x.feed(BLANKS, BLANKS, BLANKS, 0x206E6561, 0x7220353B);
            c.due("bytes", x.count(8), 2000);
            c.due("read", x.read(), 0);
            c.due("NEAR", x.count(5), 5);
        });
        String[] texts = {"near 3;", "near", "7 near", "near 21;", "stone a 1 2 3;stone a 2 2 3;", "door a b;",
            "sky p=(((((((1)))))));"};
        int[] due = {0, 1, 1, 5, 3, 4, 2};
        for (int i = 0; i < due.length; i++) {
            String text = texts[i];
            int fault = due[i];
            s.holds("4: 0, or the number of its FAULT: " + text,
                c -> c.due("read", Check.tell(new SkyStones(), text), fault));
        }
    }

    private static void place(Sentences s) {
        s.holds("5: NONE without a read", c -> c.due("place", new SkyStones().place(), -1));
        s.holds("5: NONE without a FAULT", c -> c.due("place", Check.told("near 3;").place(), -1));
        s.holds("5: the first byte's place is 0", c -> {
            SkyStones x = new SkyStones();
            Check.tell(x, "x");
            c.due("place", x.place(), 0);
        });
        s.holds("5: the text's end is its length, 0 bytes are no FAULT", c -> {
            SkyStones x = new SkyStones();
            Check.tell(x, "near");
            c.due("place", x.place(), 4);
            x.read();
            c.due("place then", x.place(), -1);
        });
        s.holds("5: the text's end with blanks, of 2,000 bytes", c -> {
            SkyStones x = new SkyStones();
            x.feed(0x6E656172, BLANKS, BLANKS, BLANKS, BLANKS);
            for (int i = 0; i < 99; i++) {
                blanks(x);
            }
            c.due("read", x.read(), 1);
            c.due("place", x.place(), 2000);
        });
        s.holds("5: the last byte of 2,000", c -> {
            SkyStones x = full();
            x.back(20);
            x.feed(BLANKS, BLANKS, BLANKS, BLANKS, 0x2020203F);
            c.due("read", x.read(), 1);
            c.due("place", x.place(), 1999);
        });
        s.holds("5: of the latest read()", c -> {
            SkyStones x = new SkyStones();
            Check.tell(x, "near");
            Check.tell(x, "door a b;");
            c.due("of the second FAULT", x.place(), 5);
            Check.tell(x, "near 3;");
            c.due("of none", x.place(), -1);
        });
        s.holds("5: no other call changes it", c -> {
            SkyStones x = Check.told("stone a 1 2 3;");
            Check.tell(x, "near");
            blanks(x);
            x.back(3);
            x.found(1, 1, 1);
            x.hold(0);
            x.again(0);
            c.due("place", x.place(), 4);
        });
    }
}
