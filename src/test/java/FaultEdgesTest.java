/** Terms: ROOM, TWICE, NAME, WRONG, which FAULT is the first, and that a text with one changes nothing. */
final class FaultEdgesTest {
    private static final String TWO = "stone a 1 2 3;stone b 1 3 3;";
    private static final String FIVE = "sky p=1;sky q=1;sky r=1;sky s=1;sky t=1;";

    public static void main(String[] args) {
        Sentences s = new Sentences();
        room(s);
        nested(s);
        tokensInAll(s);
        twice(s);
        names(s);
        wrong(s);
        first(s);
        nothingChanged(s);
        instead(s);
        s.end();
    }

    private static void fault(Sentences s, String sentence, String text, int fault, int place) {
        s.holds(sentence + ": " + text, c -> c.fault(text, fault, place));
    }

    private static String things(int n, String kind) {
        StringBuilder all = new StringBuilder();
        for (int i = 0; i < n; i++) {
            all.append(i % 2 == 0 ? kind : "hole").append(" t").append((char) ('a' + i)).append(" 5 ").append(i).append(" 0;");
        }
        return all.toString();
    }

    // ---- 2 ROOM

    private static void room(Sentences s) {
        String most = things(14, "stone");
        int end = most.length();
        fault(s, "14 THINGS", most, 0, -1);
        fault(s, "a 15th THING, a stone", most + "stone x 6 6 6;", 2, end);
        fault(s, "a 15th THING, a hole", most + "hole x 6 6 6;", 2, end);
        fault(s, "a 15th THING, holes alone", things(14, "hole") + "hole x 6 6 6;", 2, things(14, "hole").length());
        fault(s, "a 15th THING at its first TOKEN, behind blanks", most + " \n hole x 6 6 6;", 2, end + 3);
        fault(s, "a 15th THING, though no text goes on behind it", most + "stone ;", 2, end);
        fault(s, "14 THINGS and all else", most + "door ta tb;hill 1 2 3;near 3;count if 1==1;" + FIVE, 0, -1);
        String doors = "door a b;".repeat(8);
        fault(s, "8 DOORS", TWO + doors, 0, -1);
        fault(s, "a 9th door", TWO + doors + "near 1;door b a;", 2, TWO.length() + 72 + 7);
        fault(s, "a 9th door, though no text goes on behind it", TWO + doors + "door;", 2, TWO.length() + 72);
        fault(s, "12 HILLS", "hill 1 2 3;".repeat(12), 0, -1);
        fault(s, "a 13th hill", "hill 1 2 3;".repeat(12) + " hill 1 2 3;", 2, 133);
        fault(s, "a 13th hill, though no text goes on behind it", "hill 1 2 3;".repeat(12) + "hill", 2, 132);
        fault(s, "5 PLACES", FIVE, 0, -1);
        fault(s, "a 6th sky", FIVE + "sky u=1;", 2, 40);
        fault(s, "a 6th sky, though no text goes on behind it", FIVE + "sky sky", 2, 40);
        fault(s, "6 RULES", "count if 1<2;".repeat(6), 0, -1);
        fault(s, "a 7th count", "count if 1<2;".repeat(7), 2, 78);
        fault(s, "a 7th count, though no text goes on behind it", "count if 1<2;".repeat(6) + "count count", 2, 78);
        fault(s, "near as often as there are TOKENS", "near 1;".repeat(133), 0, -1);
        fault(s, "each by itself", things(14, "stone") + "door ta tb;".repeat(8) + "hill 1 2 3;".repeat(12)
            + "count if 1<2;".repeat(6) + FIVE, 0, -1);
    }

    private static void nested(Sentences s) {
        fault(s, "six ( within one another", "sky p=((((((1))))));", 0, -1);
        fault(s, "a 7th ( at it", "sky p=(((((((1)))))));", 2, 12);
        fault(s, "a 7th ( behind blanks, at it", "sky p=(((((( (1)))))));", 2, 13);
        fault(s, "those that are closed do not count", "sky p=((((((1))))))+((((((2))))))*((((((3))))));", 0, -1);
        fault(s, "those that are closed do not count, within another", "sky p=(((((((1)))))+1));", 2, 12);
        fault(s, "six, of which the last within the first five again", "sky p=(((((1+(2)+(3))))));", 0, -1);
        fault(s, "a 7th ( behind a closed one", "sky p=(((((1+(2)+((3)))))));", 2, 18);
        fault(s, "six in both Es of a LIT", "count if ((((((1))))))==((((((1))))));", 0, -1);
        fault(s, "a 7th in the first E of a LIT", "count if (((((((1)))))))==1;", 2, 15);
        fault(s, "a 7th in the second E of a LIT", "count if 1==(((((((1)))))));", 2, 18);
        fault(s, "a 7th ( where no ( goes on is SYNTAX", "sky p=((((((1(1;", 1, 13);
        fault(s, "a 7th ( and then what no text goes on with", "sky p=(((((((;", 2, 12);
        fault(s, "what no text goes on with ahead of a 7th (", "sky p=((;((((1", 1, 8);
    }

    /** 131 times three TOKENS are 393. */
    private static void tokensInAll(Sentences s) {
        String many = "near 1;".repeat(131);
        int end = many.length();
        fault(s, "400 TOKENS", many + "stone a 1 2 3;near", 1, end + 18);
        fault(s, "400 TOKENS that are whole", many + "sky p=1+1;", 0, -1);
        fault(s, "400 TOKENS and blanks", many + "sky p=1+1; \t", 0, -1);
        fault(s, "a 401st TOKEN", many + "sky p=1+1;near 1;", 2, end + 10);
        fault(s, "a 401st TOKEN, the text's last one", many + "sky p=1+1; sky", 2, end + 11);
        fault(s, "a 401st TOKEN, with which no text goes on", many + "sky p=1+1;1", 1, end + 10);
        fault(s, "a 401st that is no TOKEN", many + "sky p=1+1;?", 1, end + 10);
        fault(s, "a 401st TOKEN, a ; of a sky", many.substring(7) + "sky p=1+2+3+4;", 2, end - 7 + 13);
        fault(s, "a 401st TOKEN, a NAME", many + "stone a 1 2 3;stone b", 2, end + 20);
        fault(s, "a 401st TOKEN, an INT", many + "hill 1 2 3;hill 2 3", 2, end + 18);
        fault(s, "a 401st TOKEN, a VAR", many + "sky p=1+2*year;", 2, end + 10);
        fault(s, "a 401st TOKEN, a (", many + "sky p=1+2*(3);", 2, end + 10);
        fault(s, "a 401st TOKEN, a )", many + "sky p=(1+2);", 2, end + 10);
        fault(s, "a 401st TOKEN, an and", many + "count if 1==2+3 and 1==1;", 2, end + 16);
        fault(s, "a 401st TOKEN, an or", many + "count if 1==2+3 or 1==1;", 2, end + 16);
        fault(s, "a 401st TOKEN, a not", many + "count if not not not not not not 1==1;", 2, end + 29);
        fault(s, "a 401st TOKEN, an ==", many + "count if 1+2+3==1;", 2, end + 14);
        fault(s, "a 401st TOKEN, the word span", many + "hill 1 2 3;sky p span 2=1;", 2, end + 17);
        fault(s, "a 401st TOKEN, a =", many + "hill 1 2 3;sky p =1;", 2, end + 17);
        fault(s, "2,000 bytes of TOKENS of one byte", ";".repeat(2000), 1, 0);
        fault(s, "a great many behind the 401st TOKEN", many + "sky p=1+1" + "+1".repeat(300), 2, end + 10);
    }

    // ---- 3 TWICE, 4 NAME, 5 WRONG

    private static void twice(Sentences s) {
        fault(s, "a NAME told already, of a stone", "stone a 1 2 3;stone a 2 2 3;", 3, 20);
        fault(s, "a NAME told already, of a hole", "hole a 1 2 3;hole a 2 2 3;", 3, 18);
        fault(s, "a NAME told already, of a PLACE", "sky a=1;sky a=2;", 3, 12);
        fault(s, "a NAME told already, of a THING, for a PLACE", "stone a 1 2 3;sky a=2;", 3, 18);
        fault(s, "a NAME told already, of a PLACE, for a THING", "sky a=1;stone a 1 2 3;", 3, 14);
        fault(s, "a NAME told already, of the first, by the 14th", things(13, "stone") + "hole ta 9 9 9;", 3,
            things(13, "stone").length() + 5);
        fault(s, "a NAME told already, of the first, by the 5th PLACE", FIVE.replace("t=", "p="), 3, 36);
        fault(s, "a NAME of the text ahead is not told", "stone zz 1 2 3;", 0, -1);
        fault(s, "a THING where another one is, at its second INT", "stone a 1 2 3;hole b 1 2 4;", 3, 23);
        fault(s, "a THING where the first one is, the 14th", things(13, "stone") + "hole x 5 0 9;", 3,
            things(13, "stone").length() + 9);
        fault(s, "a THING at 0 0 where another one is", "stone a 0 0 0;hole b 0 0 0;", 3, 23);
        fault(s, "a THING at 999 999 where another one is", "stone a 999 999 0;hole b 999 999 0;", 3, 29);
        fault(s, "written in other ways", "stone a 1 2 3;hole b 0001 02 3;", 3, 26);
        fault(s, "the same east alone", "stone a 1 2 3;hole b 1 3 3;", 0, -1);
        fault(s, "the same north alone", "stone a 1 2 3;hole b 2 2 3;", 0, -1);
        fault(s, "east and north the other way", "stone a 1 2 3;hole b 2 1 3;", 0, -1);
        fault(s, "the same age alone", "stone a 1 2 3;hole b 4 5 3;", 0, -1);
        fault(s, "a DOOR twice is none", TWO + "door a b;door a b;door b a;", 0, -1);
        fault(s, "a HILL twice is none", "hill 1 2 3;hill 1 2 3;", 0, -1);
    }

    private static void names(Sentences s) {
        fault(s, "no THING told ahead, the first NAME", TWO + "door x b;", 4, 33);
        fault(s, "no THING told ahead, the second NAME", TWO + "door a x;", 4, 35);
        fault(s, "no THING told ahead, both: the first", TWO + "door x y;", 4, 33);
        fault(s, "no THING told ahead, both alike: no DOOR to itself", TWO + "door x x;", 4, 33);
        fault(s, "it is told behind, the first NAME", "stone a 1 2 3;door b a;stone b 2 2 3;", 4, 19);
        fault(s, "it is told behind, the second NAME", "stone a 1 2 3;door a b;stone b 2 2 3;", 4, 21);
        fault(s, "a PLACE is no THING", TWO + "sky p=1;door p a;", 4, 41);
        fault(s, "a PLACE is no THING, the second NAME", TWO + "sky p=1;door a p;", 4, 43);
        fault(s, "a THING of the text ahead is not told", TWO + "door zz a;", 4, 33);
        fault(s, "the first and the 14th THING", things(14, "stone") + "door ta tn;door tn ta;", 0, -1);
        fault(s, "a NAME that begins alike", "stone aa 1 2 3;stone ab 2 2 3;door aa a;", 4, 38);
    }

    private static void wrong(Sentences s) {
        fault(s, "east 999, north 999, an age 9999", "stone a 999 999 9999;", 0, -1);
        fault(s, "east 0, north 0, an age 0", "hole a 0 0 0;", 0, -1);
        fault(s, "east above 999", "stone a 1000 1 1;", 5, 8);
        fault(s, "east far above 999", "hole a 9999 1 1;", 5, 7);
        fault(s, "north above 999", "stone a 1 1000 1;", 5, 10);
        fault(s, "both: east is the first", "stone a 1000 1000 1;", 5, 8);
        fault(s, "DEGREES 0 and 359, a height 20", "hill 0 359 20;hill 359 0 0;", 0, -1);
        fault(s, "a DEGREE above 359, the first", "hill 360 1 1;", 5, 5);
        fault(s, "a DEGREE above 359, the second", "hill 1 360 1;", 5, 7);
        fault(s, "a height above 20", "hill 1 2 21;", 5, 9);
        fault(s, "all three: the first", "hill 9999 9999 9999;", 5, 5);
        fault(s, "a SPAN 20", "sky p span 20=1;", 0, -1);
        fault(s, "a SPAN 0", "sky p span 0=1;", 0, -1);
        fault(s, "a SPAN above 20", "sky p span 21=1;", 5, 11);
        fault(s, "NEAR 20", "near 20;", 0, -1);
        fault(s, "NEAR 0", "near 0;", 0, -1);
        fault(s, "NEAR above 20", "near 21;", 5, 5);
        fault(s, "NEAR above 20, though it is not the last one told", "near 21;near 2;", 5, 5);
        fault(s, "a DOOR from a THING to itself, at the second NAME", TWO + "door a a;", 5, 35);
        fault(s, "a DOOR from the last THING to itself", TWO + "door a b;door b b;", 5, 44);
        fault(s, "an INT in an E is never WRONG", "sky p=9999;count if 9999==9999;", 0, -1);
    }

    // ---- the first by its place, of one place the least

    private static void first(Sentences s) {
        fault(s, "SYNTAX behind TWICE, NAME, WRONG", "stone a 1 2 3;stone a 1 2 3;door x y;near 21;?", 1, 45);
        fault(s, "ROOM behind TWICE, NAME, WRONG", "sky p=1;sky p=1;door x y;near 21;sky r=1;sky s=1;sky t=1;sky u=1;", 2, 57);
        fault(s, "SYNTAX ahead of ROOM", "sky p=;" + FIVE + FIVE, 1, 6);
        fault(s, "ROOM ahead of SYNTAX", FIVE + "sky u=;", 2, 40);
        fault(s, "ROOM ahead of ROOM", FIVE + "sky p=(((((((1)))))));", 2, 40);
        fault(s, "the text's end is SYNTAX ahead of WRONG", "near 21", 1, 7);
        fault(s, "the text's end is behind ROOM", FIVE + "sky", 2, 40);
        fault(s, "TWICE ahead of NAME", "sky p=1;sky p=1;door x y;", 3, 12);
        fault(s, "NAME ahead of TWICE", "door x y;sky p=1;sky p=1;", 4, 5);
        fault(s, "NAME ahead of WRONG", "door x y;near 21;", 4, 5);
        fault(s, "WRONG ahead of NAME", "near 21;door x y;", 5, 5);
        fault(s, "WRONG ahead of TWICE", "near 21;sky p=1;sky p=1;", 5, 5);
        fault(s, "TWICE ahead of WRONG", "sky p=1;sky p=1;near 21;", 3, 12);
        fault(s, "within a TELL: the NAME ahead of its INTS", "sky a=1;stone a 1000 1000 1;", 3, 14);
        fault(s, "within a TELL: east ahead of where another one is", "stone a 1000 2 3;stone b 1000 2 3;", 5, 8);
        fault(s, "within a TELL: a NAME ahead of where another one is", "stone a 1 2 3;stone a 1 2 3;", 3, 20);
        fault(s, "within a TELL: the NAME ahead of its SPAN", "sky a=1;sky a span 21=1;", 3, 12);
        fault(s, "within a sky: WRONG gives way to a ( too many", "sky p span 21=(((((((1)))))));", 2, 20);
        fault(s, "within a TELL: WRONG gives way to its own end", "hill 360 360 21", 1, 15);
        fault(s, "of one place the least: the 401st is SYNTAX, not ROOM", "near 1;".repeat(133) + "near near", 1, 936);
    }

    // ---- a text with a FAULT changes nothing; else it is in place of the one ahead

    private static SkyStones rich() {
        SkyStones x = Check.told("stone a 100 100 500;hole b 130 110 200;stone c 100 90 800;door a b;door c b;"
            + "hill 350 10 5;hill 90 100 3;sky p span 1=year/100+height;sky q=90;near 3;count if stones==1;count if degree<180;");
        x.found(5, 6, 7);
        x.move(1, 100, 130);
        x.date(0, 50);
        x.site(10, 20);
        x.hold(1);
        return x;
    }

    private static void nothingChanged(Sentences s) {
        String[] texts = {"stone q 7 7 7;hole r 8 8 8;near 9;sky z=7;count if 1==2;hill 0 359 9;door q r;stone",
            "stone q 7 7 7;near 9;sky z=(((((((7)))))));", "sky z=7;near 9;hill 0 359 9;stone z 7 7 7;",
            "stone q 7 7 7;near 9;count if 1==2;door q r;", "hill 0 359 9;stone q 7 7 7;stone r 7 8 8;door q q;",
            "hill 0 359 9;hole q 1 1 1;sky z=7;near 21;", "?", "count if 1==2;".repeat(7)};
        for (String text : texts) {
            s.holds("a text with a FAULT changes nothing: " + text, c -> {
                SkyStones x = rich();
                x.read();
                SkyStones y = rich();
                String before = Seen.of(y);
                c.due("a FAULT", Check.tell(y, text) != 0, true);
                String after = Seen.of(y).replaceFirst("place -?\\d+", "place -1");
                c.due("is as it was: " + before + " and " + after, after.equals(before), true);
            });
        }
        s.holds("two texts with FAULTS, one behind the other", c -> {
            SkyStones x = rich();
            String before = Seen.of(x);
            Check.tell(x, texts[0]);
            Check.tell(x, texts[2]);
            c.due("is as it was", Seen.of(x).replaceFirst("place -?\\d+", "place -1").equals(before), true);
        });
        for (String text : texts) {
            s.holds("nothing of a text with a FAULT is in the next one: " + text, c -> {
                SkyStones x = rich();
                Check.tell(x, text);
                c.due("read", Check.tell(x, "hole q 7 7 7;hole r 8 8 8;sky z=7+height;near 4;count if 1==1;door r q;"), 0);
                c.due("place", x.place(), -1);
                int[] due = {2, 1, 0, 1, 1, 4, 0, 1, 0, 1};
                for (int what = 0; what < due.length; what++) {
                    c.due("count " + what, x.count(what), due[what]);
                }
                c.due("the one way", x.line(1, 4, 0), 0);
                c.due("the other way", x.line(14, 4, 0), 1);
                c.due("no HILL", x.rise(0, 0), 7);
            });
        }
        s.holds("a text with a FAULT keeps FACTS, which go on being counted", c -> {
            SkyStones x = rich();
            Check.tell(x, "near");
            c.due("the next FACT", x.gone(0), 3);
            c.due("it is KNOWN", x.thing(0, 4, 4), 1);
        });
    }

    private static void instead(Sentences s) {
        s.holds("a text is in place of the one ahead", c -> {
            SkyStones x = rich();
            c.due("read", Check.tell(x, "hole z 1 2 3;"), 0);
            int[] due = {1, 0, 0, 0, 0, 2, 0, 1, 0, 1};
            for (int what = 0; what < due.length; what++) {
                c.due("count " + what, x.count(what), due[what]);
            }
            c.due("a hole", x.thing(0, 3, 0), 0);
            c.due("HEIGHT", x.height(0), 0);
            c.due("PLACE", x.rise(0, 0), -1);
        });
        s.holds("five texts, each in place of the one ahead", c -> {
            SkyStones x = new SkyStones();
            for (int i = 1; i <= 5; i++) {
                c.due("read", Check.tell(x, "stone a 0 0 0;".repeat(i % 2) + "sky p=1;" + "hill 1 2 3;".repeat(i)), 0);
                c.due("THINGS", x.count(0), i % 2);
                c.due("PLACES", x.count(3), 1);
                c.due("HILLS", x.count(2), i);
                c.due("NEAR", x.count(5), 2);
            }
        });
        s.holds("NEAR of the texts ahead is not told any more", c -> {
            SkyStones x = new SkyStones();
            int[] due = {7, 2, 2, 9, 2, 2};
            String[] texts = {"near 7;", "sky p=1;", "", "near 9;", "", "sky p=1;"};
            for (int i = 0; i < due.length; i++) {
                c.due("read", Check.tell(x, texts[i]), 0);
                c.due("NEAR", x.count(5), due[i]);
            }
        });
        s.holds("five texts, each of 400 TOKENS", c -> {
            SkyStones x = new SkyStones();
            for (int i = 1; i <= 5; i++) {
                c.due("read", Check.tell(x, "near 3;sky p=" + i + "+1".repeat(192) + ";sky q=" + i + "*2;"), 0);
                c.due("p", x.rise(0, 0), 192 + i);
                c.due("q", x.rise(1, 0), 2 * i);
            }
        });
        s.holds("RULES of the texts ahead do not hold any more", c -> {
            SkyStones x = Check.told("count if 1==1;count if 1==1;");
            Check.tell(x, "count if 1==2;count if 1==1;count if 1==1;");
            Check.tell(x, "stone a 1 1 1;stone b 1 2 1;count if 1==2;");
            c.due("COUNTS", x.line(1, 7, 0), 0);
            Check.tell(x, "stone a 1 1 1;stone b 1 2 1;count if 1==2;");
            c.due("COUNTS then", x.line(1, 7, 0), 0);
            c.due("no second RULE", x.story(1, 0, 0, 0, 0), -1);
        });
        s.holds("no DOOR of the text ahead is left", c -> {
            SkyStones x = rich();
            Check.tell(x, "hole z 1 2 3;hole y 1 3 3;");
            c.due("meant", x.line(1, 4, 0), 0);
            c.due("back", x.line(14, 5, 0), 0);
        });
        s.holds("no DOOR of the text ahead of the one ahead is left", c -> {
            SkyStones x = Check.told("hole z 1 2 3;hole y 1 3 3;door z y;count if meant==1;");
            Check.tell(x, "near 3;");
            Check.tell(x, "hole z 1 2 3;hole y 1 3 3;");
            c.due("meant", x.line(1, 4, 0), 0);
            c.due("back", x.line(14, 5, 0), 0);
            c.due("RULES", x.count(4), 0);
        });
        s.holds("no SPAN of the text ahead is left", c -> {
            SkyStones x = rich();
            Check.tell(x, "hole z 1 2 3;hole y 1 3 3;sky p=2;");
            c.due("SURELY", x.hit(1, 0, 0, 0), 2);
        });
        s.holds("no SPAN of the text ahead of the one ahead is left", c -> {
            SkyStones x = Check.told("sky p span 9=2;");
            Check.tell(x, "near 3;");
            Check.tell(x, "hole z 1 2 3;hole y 1 3 3;sky p=2;");
            c.due("SURELY", x.hit(1, 0, 0, 0), 2);
        });
        s.holds("a FOUND THING is a hole, whatever was told ahead under its number", c -> {
            SkyStones x = Check.told("stone a 1 2 3;stone b 2 3 4;stone c 3 4 5;");
            Check.tell(x, "stone d 7 8 9;stone e 8 8 9;");
            Check.tell(x, "stone f 9 9 9;");
            x.found(6, 6, 6);
            c.due("a hole", x.thing(1, 3, 1), 0);
            c.due("of a LINE's two", x.line(1, 3, 1), 1);
        });
        s.holds("there are no FACTS then", c -> {
            SkyStones x = rich();
            Check.tell(x, "stone a 1 2 3;hole b 1 9 9;");
            c.due("FACTS", x.count(6), 0);
            c.due("no n", x.thing(0, 0, 1), -1);
            c.due("not moved", x.thing(1, 1, 0), 9);
            c.due("not dated", x.thing(0, 2, 0), 3);
            c.due("FACTS from 0 on", x.gone(0), 0);
            c.due("the next THING", x.found(1, 1, 1), 2);
        });
        s.holds("SITES and SLOTS are not of the text", c -> {
            SkyStones x = rich();
            Check.tell(x, "");
            c.due("SITES", x.count(7), 1);
            c.due("again", x.again(1), true);
            c.due("THINGS", x.count(0), 4);
        });
    }
}
