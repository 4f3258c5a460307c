import java.util.ArrayList;
import java.util.List;

/** Promises 43 to 45, and that asking changes nothing: each sentence that names an edge. */
final class SlotEdgesTest {
    private static final String TEXT = "stone a 100 100 500;hole b 130 110 200;stone c 100 90 800;door a b;door c b;"
        + "hill 350 10 5;hill 90 100 3;sky p span 1=year/100+height;sky q=90;near 3;count if stones==1;count if degree<180;";

    public static void main(String[] args) {
        Sentences s = new Sentences();
        hold(s);
        again(s);
        count(s);
        asking(s);
        s.end();
    }

    private static SkyStones rich() {
        SkyStones x = Check.told(TEXT);
        x.found(5, 6, 7);
        x.move(1, 100, 130);
        x.date(0, 50);
        x.site(10, 20);
        x.site(0, 359);
        return x;
    }

    private static void hold(Sentences s) {
        for (int slot = 0; slot <= 2; slot++) {
            int at = slot;
            s.holds("43: SLOT " + slot, c -> {
                SkyStones x = rich();
                c.due("hold", x.hold(at), true);
                c.due("SLOTS", x.count(9), 1);
                for (int other = 0; other <= 2; other++) {
                    c.due("again " + other, x.again(other), other == at);
                }
            });
        }
        for (int wrong : new int[] {-1, 3, Integer.MIN_VALUE, Integer.MAX_VALUE}) {
            s.refused("43: false: no such SLOT " + wrong, rich(), 0, x -> x.hold(wrong) ? 1 : 0);
        }
        s.holds("43: nothing but SLOTS changes by it", c -> {
            SkyStones x = rich();
            x.feed(0, 0, 0, 0, 0);
            x.hold(2);
            String before = Seen.of(x);
            c.due("hold once more", x.hold(2), true);
            c.due("is as it was", Seen.of(x).equals(before), true);
        });
        s.holds("43: a SLOT that holds something is held anew", c -> {
            SkyStones x = Check.told("near 7;");
            x.hold(0);
            Check.tell(x, "near 8;");
            c.due("hold", x.hold(0), true);
            c.due("SLOTS", x.count(9), 1);
            Check.tell(x, "near 9;");
            x.again(0);
            c.due("NEAR", x.count(5), 8);
        });
        s.holds("43: what is told behind it is not held", c -> {
            SkyStones x = rich();
            x.hold(0);
            String before = Seen.of(x);
            x.gone(0);
            x.found(9, 9, 9);
            x.annul(1);
            x.again(0);
            c.due("is as it was", Seen.of(x).equals(before), true);
        });
        s.holds("43: an E that divides by 0, and what is told behind it", c -> {
            SkyStones x = Check.told("stone a 1 1 1;stone b 1 2 1;sky p=1/0;sky q=7;count if 1==1;count if 1/0==1;");
            x.hold(0);
            Check.tell(x, "near 9;");
            x.again(0);
            c.due("p", x.rise(0, 0), 0);
            c.due("q", x.rise(1, 0), 7);
            c.due("the first RULE", x.story(0, 3, 0, 0, 0), 2);
            c.due("the second RULE", x.story(1, 3, 0, 0, 0), 0);
        });
        s.holds("43: where nothing is told", c -> {
            SkyStones x = new SkyStones();
            c.due("hold", x.hold(1), true);
            Check.tell(x, TEXT);
            c.due("again", x.again(1), true);
            c.due("THINGS", x.count(0), 0);
            c.due("NEAR", x.count(5), 2);
        });
        s.holds("43: all that can be told, and 60 FACTS", c -> {
            StringBuilder text = new StringBuilder();
            for (int i = 0; i < 14; i++) {
                text.append("stone t").append((char) ('a' + i)).append(" 0 ").append(i).append(" 0;");
            }
            text.append("door tn ta;".repeat(8)).append("hill 0 0 9;".repeat(11)).append("hill 359 359 20;");
            text.append("sky p=1;sky q=2;sky r=3;sky s=4;sky t span 20=359+height;near 20;");
            text.append("count if 1==2;".repeat(5)).append("count if gap==7;");
            SkyStones x = Check.told(text.toString());
            for (int i = 0; i < 59; i++) {
                x.move(13, i, 999);
            }
            x.date(13, 7);
            x.hold(2);
            Check.tell(x, "");
            x.again(2);
            int[] due = {14, 8, 12, 5, 6, 20, 60, 0, 0, 1};
            for (int what = 0; what < due.length; what++) {
                c.due("count " + what, x.count(what), due[what]);
            }
            c.due("the last HILL", x.height(359), 20);
            c.due("the last PLACE", x.rise(4, 0), 19);
            c.due("its SPAN", x.hits(16, 0, 0, true, 60) < x.hits(16, 0, 0, false, 60), true);
            c.due("the last RULE", x.story(5, 0, 0, 60, 0), 26);
            c.due("the DOOR", x.line(14 * 13, 4, 60), 1);
            c.due("the last MOVED", x.thing(13, 0, 60), 58);
            c.due("the last FACT", x.thing(13, 2, 60), 7);
        });
    }

    private static void again(Sentences s) {
        s.refused("44: false: nothing is held", rich(), 0, x -> x.again(0) ? 1 : 0);
        SkyStones one = rich();
        one.hold(0);
        Check.tell(one, "stone z 1 1 1;");
        for (int wrong : new int[] {-1, 1, 2, 3, Integer.MIN_VALUE, Integer.MAX_VALUE}) {
            s.refused("44: false, and nothing happens: SLOT " + wrong, one, 0, x -> x.again(wrong) ? 1 : 0);
        }
        s.holds("44: all goes on from what a SLOT holds", c -> {
            SkyStones x = rich();
            String before = Seen.of(x);
            x.hold(1);
            Check.tell(x, "hole z 1 1 1;sky y=7;");
            x.gone(0);
            c.due("again", x.again(1), true);
            c.due("is as it was", Seen.of(x).equals(before.replaceFirst("2 0 0 place", "2 0 1 place")), true);
            c.due("the next THING", x.found(1, 1, 1), 4);
            c.due("the next FACT", x.gone(0), 4);
        });
        s.holds("44: that stays there: twice", c -> {
            SkyStones x = rich();
            x.hold(1);
            for (int i = 0; i < 3; i++) {
                x.gone(i);
                x.again(1);
                c.due("GONE", x.thing(i, 4, x.count(6)), 0);
                c.due("FACTS", x.count(6), 3);
                c.due("SLOTS", x.count(9), 1);
            }
        });
        s.holds("44: what goes on does not change what is held", c -> {
            SkyStones x = rich();
            x.hold(1);
            x.again(1);
            x.gone(0);
            x.hold(2);
            x.again(1);
            c.due("FACTS of 1", x.count(6), 3);
            x.again(2);
            c.due("FACTS of 2", x.count(6), 4);
        });
        s.holds("44: a read behind it does not change what is held", c -> {
            SkyStones x = Check.told("near 7;sky p=7;");
            x.hold(0);
            x.again(0);
            Check.tell(x, "near 8;sky p=8;");
            Check.tell(x, "near 9;sky p=9");
            Check.tell(x, "near 9;sky p=9;");
            x.again(0);
            c.due("NEAR", x.count(5), 7);
            c.due("PLACE", x.rise(0, 0), 7);
        });
        s.holds("44: SITES aside", c -> {
            SkyStones x = rich();
            x.hold(0);
            x.clear();
            x.again(0);
            c.due("SITES", x.count(7), 0);
            x.site(1, 1);
            x.again(0);
            c.due("SITES then", x.count(7), 1);
        });
        s.holds("44: the tape goes on as it is", c -> {
            SkyStones x = Check.told("near 7;");
            x.hold(0);
            Check.put(x, Check.bytes("near 8;"));
            x.again(0);
            c.due("bytes", x.count(8), 7);
            c.due("read", x.read(), 0);
            c.due("NEAR", x.count(5), 8);
        });
        s.holds("44: FACTS above those that are held are not KNOWN any more", c -> {
            SkyStones x = Check.told("stone a 1 1 1;");
            x.hold(0);
            x.gone(0);
            x.again(0);
            c.due("n 1", x.thing(0, 4, 1), -1);
            c.due("a FACT to be VOID", x.annul(0), -1);
        });
    }

    private static void count(Sentences s) {
        s.bounds("45: count: what", 0, 9, -1, v -> new SkyStones().count(v));
        s.holds("45: THINGS (FOUND ones, too)", c -> {
            SkyStones x = rich();
            c.due("with one FOUND", x.count(0), 4);
            x.gone(0);
            c.due("with one GONE", x.count(0), 4);
            x.annul(0);
            c.due("with the FOUND one VOID", x.count(0), 4);
        });
        s.holds("45: DOORS, alike ones too", c -> {
            c.due("DOORS", Check.told("stone a 1 1 1;stone b 1 2 1;" + "door a b;".repeat(8)).count(1), 8);
        });
        s.holds("45: HILLS, PLACES, RULES, as many as there can be", c -> {
            SkyStones x = Check.told("hill 1 2 3;".repeat(12) + "count if 1==1;".repeat(6) + "sky p=1;sky q=1;sky r=1;sky s=1;sky t=1;");
            c.due("HILLS", x.count(2), 12);
            c.due("PLACES", x.count(3), 5);
            c.due("RULES", x.count(4), 6);
        });
        s.holds("45: FACTS, VOID ones and VOIDS too", c -> {
            SkyStones x = rich();
            x.annul(0);
            c.due("FACTS", x.count(6), 4);
        });
        s.holds("45: SLOTS that hold something: 0 to 3", c -> {
            SkyStones x = rich();
            int[] slots = {2, 2, 0, 1, 1, 0};
            int[] due = {1, 1, 2, 3, 3, 3};
            for (int i = 0; i < slots.length; i++) {
                x.hold(slots[i]);
                c.due("hold " + slots[i], x.count(9), due[i]);
            }
        });
        s.holds("45: bytes on the tape", c -> {
            SkyStones x = rich();
            x.feed(0, 0, 0, 0, 0);
            x.back(7);
            c.due("bytes", x.count(8), 13);
            x.read();
            c.due("bytes then", x.count(8), 0);
        });
    }

    // ---- asking changes nothing, and no answer depends on what was asked ahead

    private static List<Sentences.Call> questions() {
        List<Sentences.Call> all = new ArrayList<>(List.of(x -> x.place(), x -> x.thing(3, 4, 0), x -> x.thing(1, 1, 3),
            x -> x.degree(-3, 7), x -> x.vector(200, 0), x -> x.line(1, 0, 0), x -> x.line(1, 7, 3), x -> x.lines(false, 2),
            x -> x.lines(true, 3), x -> x.height(355), x -> x.rise(0, 777), x -> x.hit(14, 1, 0, 3), x -> x.hits(3, 0, 77, false, 1),
            x -> x.hits(1, 4000, 0, true, 3), x -> x.hitAt(3, 100, false, 2, 0), x -> x.many(3, 4000, 3), x -> x.allHits(2, 0, 0),
            x -> x.alone(3, 300, 3), x -> x.striking(0, 90, 3), x -> x.striking(4999, 0, 0), x -> x.price(100, 3)));
        all.addAll(List.of(x -> x.story(0, 3, 0, 3, 0), x -> x.story(1, 3, 0, 3, 1), x -> x.story(0, 2, 0, 0, 2),
            x -> x.otherwise(3, 0, 0, 3), x -> x.otherwise(3, 500, 3, 1), x -> x.free(3, 3, 0, 25, 200),
            x -> x.freer(1, 0, 0, 25, 200, 4000), x -> x.next(3, 0, 3), x -> x.pointing(5, 9, false), x -> x.pointing(5, 20, true),
            x -> x.chance(5, 9), x -> x.made(5, 7, 3), x -> x.madeAt(5, 7, 7, 13, 0), x -> x.odds(5, 7, 3, 20, 4),
            x -> x.counts(56, 3, 1, 19, 1), x -> x.anything(56, 20, 20, 1, 2000), x -> x.life(5, 90, 7, 3), x -> x.seen(12, 3, 4, 9),
            x -> x.say(1, 0, 3), x -> x.say(14, 4500, 0), x -> x.count(6)));
        all.addAll(List.of(x -> x.hits(4, 0, 0, false, 0), x -> x.many(1, 5001, 0), x -> x.line(1, 0, 4), x -> x.rise(2, 0),
            x -> x.madeAt(5, 8, 0, 0, 0), x -> x.odds(5, 7, 3, 201, 0), x -> x.free(3, 3, 4000, 100, 200), x -> x.back(-1),
            x -> x.back(0), x -> x.move(9, 1, 1), x -> x.annul(3), x -> x.again(0) ? 1 : 0, x -> x.hold(3) ? 1 : 0));
        return all;
    }

    private static void asking(Sentences s) {
        List<Sentences.Call> questions = questions();
        long[] alone = new long[questions.size()];
        for (int i = 0; i < alone.length; i++) {
            alone[i] = questions.get(i).of(rich());
        }
        for (int first = 0; first < alone.length; first++) {
            int ahead = first;
            s.holds("asking changes nothing, question " + first, c -> {
                SkyStones x = rich();
                String before = Seen.of(x);
                c.due("answer", questions.get(ahead).of(x), alone[ahead]);
                c.due("is as it was", Seen.of(x).equals(before), true);
            });
            s.holds("no answer depends on question " + first + " asked ahead of it", c -> {
                for (int i = 0; i < alone.length; i++) {
                    SkyStones x = rich();
                    questions.get(ahead).of(x);
                    c.due("question " + i, questions.get(i).of(x), alone[i]);
                    c.due("question " + ahead + " again", questions.get(ahead).of(x), alone[ahead]);
                }
            });
        }
    }
}
