/** II, FACTS of surveys, and promises 6 to 11: each sentence that names an edge. */
final class FactEdgesTest {
    private static final String TWO = "stone a 10 20 30;hole b 40 50 60;";

    public static void main(String[] args) {
        Sentences s = new Sentences();
        found(s);
        foundKnown(s);
        moved(s);
        gone(s);
        dated(s);
        voided(s);
        known(s);
        sixty(s);
        refusals(s);
        thing(s);
        s.end();
    }

    private static String things(int n) {
        StringBuilder all = new StringBuilder();
        for (int i = 0; i < n; i++) {
            all.append("stone t").append((char) ('a' + i)).append(" 5 ").append(i).append(" 0;");
        }
        return all.toString();
    }

    private static void thing(Check c, SkyStones x, int thing, int n, int... due) {
        for (int what = 0; what < due.length; what++) {
            c.due("thing " + thing + ", what " + what + ", n " + n, x.thing(thing, what, n), due[what]);
        }
    }

    private static void found(Sentences s) {
        s.holds("6: FOUND where nothing is told: THING 0", c -> {
            SkyStones x = new SkyStones();
            c.due("found", x.found(1, 2, 3), 0);
            thing(c, x, 0, 1, 1, 2, 3, 0, 0);
        });
        s.holds("6: a hole more, the next THING", c -> {
            SkyStones x = Check.told(TWO);
            c.due("found", x.found(7, 8, 9), 2);
            c.due("found", x.found(8, 8, 9), 3);
            thing(c, x, 2, 2, 7, 8, 9, 0, 0);
            thing(c, x, 3, 2, 8, 8, 9, 0, 0);
        });
        s.holds("6: it is a FACT", c -> {
            SkyStones x = Check.told(TWO);
            x.gone(0);
            x.found(7, 8, 9);
            c.due("FACTS", x.count(6), 2);
            c.due("the next FACT", x.gone(2), 2);
        });
        s.holds("6: east 0, north 0, of an age 0", c -> {
            SkyStones x = Check.told(TWO);
            c.due("found", x.found(0, 0, 0), 2);
            thing(c, x, 2, 1, 0, 0, 0, 0, 0);
        });
        s.holds("6: east 999, north 999, of an age 9999", c -> {
            SkyStones x = Check.told(TWO);
            c.due("found", x.found(999, 999, 9999), 2);
            thing(c, x, 2, 1, 999, 999, 9999, 0, 0);
        });
        s.holds("6: where another THING is: no LINE between them, but one to others", c -> {
            SkyStones x = Check.told(TWO);
            c.due("found", x.found(10, 20, 0), 2);
            c.due("a to it", x.line(2, 0, 1), -1);
            c.due("it to a", x.line(28, 0, 1), -1);
            c.due("b to it", x.line(16, 0, 1) >= 0, true);
        });
        s.holds("6: the 14th THING", c -> c.due("found", Check.told(things(13)).found(1, 1, 1), 13));
        s.refused("6: 14 THINGS are there, all told", Check.told(things(14)), -1, x -> x.found(1, 1, 1));
        SkyStones last = Check.told(things(13));
        last.found(1, 1, 1);
        s.refused("6: 14 THINGS are there, one FOUND", last, -1, x -> x.found(2, 2, 2));
        SkyStones holes = new SkyStones();
        for (int i = 0; i < 14; i++) {
            holes.found(i, i, i);
        }
        s.refused("6: 14 THINGS are there, all FOUND", holes, -1, x -> x.found(2, 2, 2));
        SkyStones gone = Check.told(things(14));
        gone.gone(3);
        s.refused("6: 14 THINGS are there, though one is GONE", gone, -1, x -> x.found(2, 2, 2));
        SkyStones none = Check.told(things(13));
        none.found(1, 1, 1);
        none.annul(0);
        s.refused("6: 14 THINGS are there, though one's FOUND is VOID", none, -1, x -> x.found(2, 2, 2));
    }

    private static void foundKnown(Sentences s) {
        s.holds("6: GONE for those who do not KNOW that it was FOUND", c -> {
            SkyStones x = Check.told(TWO);
            x.found(7, 8, 9);
            c.due("by 0", x.thing(2, 4, 0), 1);
            c.due("by 1", x.thing(2, 4, 1), 0);
            c.due("LINES by 0", x.lines(false, 0), 2);
            c.due("LINES by 1", x.lines(false, 1), 6);
            c.due("its LINE by 0", x.line(2, 0, 0), -1);
            c.due("its LINE by 1", x.line(2, 0, 1) >= 0, true);
        });
        s.holds("6: GONE for those who KNOW that FOUND is VOID", c -> {
            SkyStones x = Check.told(TWO);
            x.found(7, 8, 9);
            x.annul(0);
            c.due("by 1", x.thing(2, 4, 1), 0);
            c.due("by 2", x.thing(2, 4, 2), 1);
            c.due("LINES by 2", x.lines(false, 2), 2);
        });
        s.holds("6: one that is VOID keeps its number: the next is another one", c -> {
            SkyStones x = Check.told(TWO);
            x.found(7, 8, 9);
            x.annul(0);
            c.due("found", x.found(1, 2, 3), 3);
            c.due("THINGS", x.count(0), 4);
            c.due("the first", x.thing(2, 4, 3), 1);
            c.due("the second", x.thing(3, 4, 3), 0);
        });
        s.holds("6: the second of two FOUND ones is not KNOWN", c -> {
            SkyStones x = Check.told(TWO);
            x.found(7, 8, 9);
            x.found(8, 8, 9);
            c.due("the first by 1", x.thing(2, 4, 1), 0);
            c.due("the second by 1", x.thing(3, 4, 1), 1);
        });
    }

    private static void moved(Sentences s) {
        s.holds("7: the FACT's number, from 0 on", c -> {
            SkyStones x = Check.told(TWO);
            c.due("move", x.move(0, 1, 1), 0);
            c.due("move", x.move(0, 1, 1), 1);
        });
        s.holds("7: at another east, north: 0 0 and 999 999", c -> {
            SkyStones x = Check.told(TWO);
            x.move(0, 0, 0);
            x.move(1, 999, 999);
            thing(c, x, 0, 2, 0, 0, 30, 1, 0);
            thing(c, x, 1, 2, 999, 999, 60, 0, 0);
        });
        s.holds("7: the last MOVED that is KNOWN holds", c -> {
            SkyStones x = Check.told(TWO);
            x.move(0, 1, 2);
            x.move(0, 3, 4);
            x.move(0, 5, 6);
            thing(c, x, 0, 0, 10, 20, 30);
            thing(c, x, 0, 1, 1, 2, 30);
            thing(c, x, 0, 2, 3, 4, 30);
            thing(c, x, 0, 3, 5, 6, 30);
        });
        s.holds("7: the last MOVED is VOID: the one ahead holds", c -> {
            SkyStones x = Check.told(TWO);
            x.move(0, 1, 2);
            x.move(0, 3, 4);
            x.annul(1);
            thing(c, x, 0, 3, 1, 2, 30);
        });
        s.holds("7: all MOVED are VOID: it is as told", c -> {
            SkyStones x = Check.told(TWO);
            x.move(0, 1, 2);
            x.annul(0);
            thing(c, x, 0, 2, 10, 20, 30);
        });
        s.holds("7: an earlier MOVED is VOID: the last one holds", c -> {
            SkyStones x = Check.told(TWO);
            x.move(0, 1, 2);
            x.move(0, 3, 4);
            x.annul(0);
            thing(c, x, 0, 3, 3, 4, 30);
        });
        s.holds("7: a FOUND THING; as VOID it is where it was FOUND", c -> {
            SkyStones x = Check.told(TWO);
            x.found(7, 8, 9);
            x.move(2, 70, 80);
            thing(c, x, 2, 1, 7, 8, 9);
            thing(c, x, 2, 2, 70, 80, 9);
            x.annul(1);
            thing(c, x, 2, 3, 7, 8, 9);
        });
        s.holds("7: to where another one is: no LINE between them", c -> {
            SkyStones x = Check.told(TWO);
            x.move(0, 40, 50);
            c.due("LINES", x.lines(false, 1), 0);
            c.due("a b", x.line(1, 0, 1), -1);
            c.due("b a", x.line(14, 0, 1), -1);
        });
        s.holds("7: of a THING that is GONE", c -> {
            SkyStones x = Check.told(TWO);
            x.gone(0);
            c.due("move", x.move(0, 1, 2), 1);
            thing(c, x, 0, 2, 1, 2, 30, 1, 1);
        });
    }

    private static void gone(Sentences s) {
        s.holds("8: GONE: it is none", c -> {
            SkyStones x = Check.told(TWO + "stone c 1 1 1;");
            c.due("gone", x.gone(1), 0);
            c.due("GONE", x.thing(1, 4, 1), 1);
            c.due("LINES", x.lines(false, 1), 2);
            c.due("a b", x.line(1, 0, 1), -1);
            c.due("b a", x.line(14, 0, 1), -1);
            c.due("a c", x.line(2, 0, 1) >= 0, true);
        });
        s.holds("8: a MOVED behind it does not bring it back", c -> {
            SkyStones x = Check.told(TWO);
            x.gone(1);
            x.move(1, 2, 2);
            x.date(1, 2);
            c.due("GONE", x.thing(1, 4, 3), 1);
        });
        s.holds("8: it is GONE if there is a GONE: twice, one VOID", c -> {
            SkyStones x = Check.told(TWO);
            x.gone(1);
            x.gone(1);
            x.annul(0);
            c.due("the other holds", x.thing(1, 4, 3), 1);
            x.annul(1);
            c.due("none holds", x.thing(1, 4, 4), 0);
        });
        s.holds("8: all are GONE: no LINES", c -> {
            SkyStones x = Check.told(TWO);
            x.gone(0);
            x.gone(1);
            c.due("LINES", x.lines(false, 2), 0);
        });
        s.holds("8: GONE is not for those who do not KNOW it", c -> {
            SkyStones x = Check.told(TWO);
            x.gone(0);
            c.due("by 0", x.thing(0, 4, 0), 0);
            c.due("by 1", x.thing(0, 4, 1), 1);
        });
    }

    private static void dated(Sentences s) {
        s.holds("9: another age: 0 and 9999", c -> {
            SkyStones x = Check.told(TWO);
            c.due("date", x.date(0, 0), 0);
            c.due("date", x.date(1, 9999), 1);
            thing(c, x, 0, 2, 10, 20, 0);
            thing(c, x, 1, 2, 40, 50, 9999);
            c.due("gap", x.line(1, 1, 2), 9999);
            c.due("old", x.line(1, 6, 2), 0);
        });
        s.holds("9: the last DATED that is KNOWN holds; VOID: the one ahead, then as told", c -> {
            SkyStones x = Check.told(TWO);
            x.date(0, 1);
            x.date(0, 2);
            c.due("by 1", x.thing(0, 2, 1), 1);
            c.due("by 2", x.thing(0, 2, 2), 2);
            x.annul(1);
            c.due("by 3", x.thing(0, 2, 3), 1);
            x.annul(0);
            c.due("by 4", x.thing(0, 2, 4), 30);
        });
        s.holds("9: a FOUND THING; as VOID it has the age it was FOUND with", c -> {
            SkyStones x = Check.told(TWO);
            x.found(1, 1, 5);
            x.date(2, 6);
            c.due("by 2", x.thing(2, 2, 2), 6);
            x.annul(1);
            c.due("by 3", x.thing(2, 2, 3), 5);
        });
    }

    private static void voided(Sentences s) {
        s.holds("10: the FACT's number: it is a FACT", c -> {
            SkyStones x = Check.told(TWO);
            x.gone(0);
            c.due("annul", x.annul(0), 1);
            c.due("FACTS", x.count(6), 2);
        });
        s.holds("10: none then for those who KNOW the VOID, and for no others", c -> {
            SkyStones x = Check.told(TWO);
            x.move(0, 1, 2);
            x.date(1, 5);
            x.annul(0);
            thing(c, x, 0, 1, 1, 2, 30);
            thing(c, x, 0, 2, 1, 2, 30);
            thing(c, x, 0, 3, 10, 20, 30);
        });
        s.holds("10: whoever was asked for ahead, of FACT 0 and the next", c -> {
            SkyStones x = Check.told(TWO);
            x.move(0, 1, 2);
            x.date(0, 5);
            x.annul(0);
            x.annul(1);
            int[] east = {10, 1, 1, 10, 10};
            int[] age = {30, 30, 5, 5, 30};
            for (int n = 4; n >= 0; n--) {
                c.due("east by " + n, x.thing(0, 0, n), east[n]);
                c.due("age by " + n, x.thing(0, 2, n), age[n]);
            }
            Check.tell(x, TWO);
            x.move(0, 1, 2);
            c.due("of another text", x.thing(0, 0, 1), 1);
        });
        s.holds("10: the same FACT once more", c -> {
            SkyStones x = Check.told(TWO);
            x.gone(0);
            x.annul(0);
            c.due("annul", x.annul(0), 2);
            c.due("GONE by 3", x.thing(0, 4, 3), 0);
        });
        s.holds("10: of FACT 58, the 60th FACT", c -> {
            SkyStones x = Check.told(TWO);
            for (int i = 0; i < 59; i++) {
                x.move(0, i, i);
            }
            c.due("annul", x.annul(58), 59);
            c.due("KNOWN by 60", x.thing(0, 0, 60), 57);
            c.due("KNOWN by 59", x.thing(0, 0, 59), 58);
        });
        s.refused("10: NONE: no FACT at all", Check.told(TWO), -1, x -> x.annul(0));
        SkyStones x = Check.told(TWO);
        x.gone(0);
        x.annul(0);
        s.refused("10: NONE: a VOID", x, -1, y -> y.annul(1));
        s.refused("10: NONE: the next FACT, which is not yet", x, -1, y -> y.annul(2));
        s.refused("10: NONE: below 0", x, -1, y -> y.annul(-1));
        s.refused("10: NONE: the least", x, -1, y -> y.annul(Integer.MIN_VALUE));
        s.refused("10: NONE: the most", x, -1, y -> y.annul(Integer.MAX_VALUE));
    }

    private static void known(Sentences s) {
        s.holds("KNOWN by n: by 0 nothing", c -> {
            SkyStones x = Check.told(TWO);
            x.move(0, 1, 1);
            x.date(0, 1);
            x.gone(1);
            thing(c, x, 0, 0, 10, 20, 30, 1, 0);
            thing(c, x, 1, 0, 40, 50, 60, 0, 0);
        });
        s.holds("KNOWN by n: all; none beyond them", c -> {
            SkyStones x = Check.told(TWO);
            c.due("0 of 0", x.lines(false, 0), 2);
            c.due("1 of 0", x.lines(false, 1), -1);
            x.move(0, 1, 1);
            c.due("1 of 1", x.lines(false, 1), 2);
            c.due("2 of 1", x.lines(false, 2), -1);
            c.due("below 0", x.lines(false, -1), -1);
        });
        s.holds("KNOWN by n: a VOID of a FACT, both within n", c -> {
            SkyStones x = Check.told(TWO);
            x.gone(0);
            x.gone(1);
            x.annul(1);
            x.annul(0);
            int[] lines = {2, 0, 0, 0, 2};
            int[] goneB = {0, 0, 1, 0, 0};
            for (int n = 0; n <= 4; n++) {
                c.due("LINES by " + n, x.lines(false, n), lines[n]);
                c.due("b by " + n, x.thing(1, 4, n), goneB[n]);
            }
        });
    }

    private static SkyStones withFacts(int n) {
        SkyStones x = Check.told(TWO);
        for (int i = 0; i < n; i++) {
            x.move(0, i, i);
        }
        return x;
    }

    private static void sixty(Sentences s) {
        s.holds("60 FACTS: the 60th a FOUND", c -> c.due("found", withFacts(59).found(1, 1, 1), 2));
        s.holds("60 FACTS: the 60th a MOVED", c -> c.due("move", withFacts(59).move(1, 1, 1), 59));
        s.holds("60 FACTS: the 60th a GONE", c -> c.due("gone", withFacts(59).gone(1), 59));
        s.holds("60 FACTS: the 60th a DATED", c -> c.due("date", withFacts(59).date(1, 1), 59));
        s.holds("60 FACTS: the 60th a VOID", c -> c.due("annul", withFacts(59).annul(0), 59));
        s.refused("6: NONE: 60 FACTS are there", withFacts(60), -1, x -> x.found(1, 1, 1));
        s.refused("7: NONE: 60 are there", withFacts(60), -1, x -> x.move(1, 1, 1));
        s.refused("8: NONE: 60 are there", withFacts(60), -1, x -> x.gone(1));
        s.refused("9: NONE: 60 are there", withFacts(60), -1, x -> x.date(1, 1));
        s.refused("10: NONE: 60 are there", withFacts(60), -1, x -> x.annul(1));
        s.holds("60 FACTS: KNOWN by 60, not by 61", c -> {
            SkyStones x = withFacts(60);
            c.due("by 60", x.thing(0, 0, 60), 59);
            c.due("by 61", x.thing(0, 0, 61), -1);
        });
        s.holds("60 FACTS: a text makes room again", c -> {
            SkyStones x = withFacts(60);
            Check.tell(x, TWO);
            c.due("found", x.found(1, 1, 1), 2);
        });
    }

    /** Each wrong argument by itself, of an object that has THINGS told and FOUND. */
    private static void refusals(Sentences s) {
        SkyStones x = Check.told(TWO);
        x.found(7, 8, 9);
        for (int wrong : new int[] {-1, 1000, Integer.MIN_VALUE, Integer.MAX_VALUE}) {
            s.refused("6: NONE: no such east " + wrong, x, -1, y -> y.found(wrong, 1, 1));
            s.refused("6: NONE: no such north " + wrong, x, -1, y -> y.found(1, wrong, 1));
            s.refused("7: NONE: no such east " + wrong, x, -1, y -> y.move(0, wrong, 1));
            s.refused("7: NONE: no such north " + wrong, x, -1, y -> y.move(0, 1, wrong));
        }
        for (int wrong : new int[] {-1, 10000, Integer.MIN_VALUE, Integer.MAX_VALUE}) {
            s.refused("6: NONE: no such age " + wrong, x, -1, y -> y.found(1, 1, wrong));
            s.refused("9: NONE: no such age " + wrong, x, -1, y -> y.date(0, wrong));
        }
        for (int wrong : new int[] {-1, 3, 14, Integer.MIN_VALUE, Integer.MAX_VALUE}) {
            s.refused("7: NONE: no such THING " + wrong, x, -1, y -> y.move(wrong, 1, 1));
            s.refused("8: NONE: no such THING " + wrong, x, -1, y -> y.gone(wrong));
            s.refused("9: NONE: no such THING " + wrong, x, -1, y -> y.date(wrong, 1));
        }
        SkyStones all = Check.told(things(14));
        for (int wrong : new int[] {14, 15}) {
            s.refused("7: NONE: no such THING of 14: " + wrong, all, -1, y -> y.move(wrong, 1, 1));
            s.refused("8: NONE: no such THING of 14: " + wrong, all, -1, y -> y.gone(wrong));
            s.refused("9: NONE: no such THING of 14: " + wrong, all, -1, y -> y.date(wrong, 1));
        }
        s.refused("7: NONE: no THINGS at all", new SkyStones(), -1, y -> y.move(0, 1, 1));
        s.refused("8: NONE: no THINGS at all", new SkyStones(), -1, y -> y.gone(0));
        s.refused("9: NONE: no THINGS at all", new SkyStones(), -1, y -> y.date(0, 1));
        s.holds("7, 8, 9: a THING told or FOUND, the first and the last", c -> {
            SkyStones y = Check.told(things(13));
            y.found(1, 1, 1);
            c.due("move", y.move(0, 1, 2), 1);
            c.due("move", y.move(13, 1, 3), 2);
            c.due("date", y.date(13, 4), 3);
            c.due("gone", y.gone(13), 4);
        });
    }

    private static void thing(Sentences s) {
        SkyStones x = Check.told(TWO);
        x.found(7, 8, 9);
        s.bounds("11: thing: the THING", 0, 2, -1, v -> x.thing(v, 0, 1));
        s.bounds("11: thing: what", 0, 4, -1, v -> x.thing(0, v, 1));
        s.bounds("11: thing: n", 0, 1, -1, v -> x.thing(0, 0, v));
        s.holds("11: NONE: no THINGS at all", c -> c.due("thing", new SkyStones().thing(0, 0, 0), -1));
        s.holds("11: 1 a stone, 0 a hole", c -> {
            c.due("a stone", x.thing(0, 3, 1), 1);
            c.due("a hole", x.thing(1, 3, 1), 0);
            c.due("a FOUND one", x.thing(2, 3, 1), 0);
        });
        s.holds("11: of a THING that is GONE what it was", c -> {
            SkyStones y = Check.told(TWO);
            y.gone(0);
            thing(c, y, 0, 1, 10, 20, 30, 1, 1);
        });
        s.holds("11: of a THING that is not yet FOUND where it will be", c -> thing(c, x, 2, 0, 7, 8, 9, 0, 1));
    }
}
