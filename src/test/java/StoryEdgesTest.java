/** III, FREE, STORY, OTHERWISE, NEXT, V, SAYING, and promises 26 to 30 and 42: each sentence that names an edge. */
final class StoryEdgesTest {
    /** LINES 1: 0, 14: 180, 2: 90, 28: 270, 16: 135, 29: 315. */
    private static final String THREE = "stone a 0 0 0;stone b 0 10 0;hole c 10 0 0;";
    private static final String UP = "stone a 0 0 0;stone b 0 9 0;";

    public static void main(String[] args) {
        Sentences s = new Sentences();
        story(s);
        otherwise(s);
        free(s);
        freer(s);
        next(s);
        say(s);
        sayMany(s);
        s.end();
    }

    private static void due(Check c, SkyStones x, int rule, int set, int lines, int hits, int many) {
        c.due("LINES of " + rule, x.story(rule, set, 0, 0, 0), lines);
        c.due("HITS of " + rule, x.story(rule, set, 0, 0, 1), hits);
        c.due("AS MANY of " + rule, x.story(rule, set, 0, 0, 2), many);
    }

    private static void story(Sentences s) {
        s.holds("26: the LINES for which that RULE holds (other RULES are not asked)", c -> {
            SkyStones x = Check.told(THREE + "count if degree==0;count if degree<91;count if 1==1;near 0;sky p=0;");
            due(c, x, 0, 1, 1, 1, 1);
            due(c, x, 1, 1, 2, 1, 2);
            due(c, x, 2, 1, 6, 1, 6);
        });
        s.holds("26: a RULE that holds for none: all turns are AS MANY", c -> {
            due(c, Check.told(THREE + "count if 1==2;count if 1==1;sky p=0;"), 0, 1, 0, 0, 360);
        });
        s.holds("26: of no PLACES", c -> due(c, Check.told(THREE + "count if 1==1;sky p=0;"), 0, 0, 6, 0, 360));
        s.holds("26: without PLACES", c -> due(c, Check.told(THREE + "count if 1==1;"), 0, 0, 6, 0, 360));
        s.holds("26: MAYBE", c -> due(c, Check.told(THREE + "count if degree==0;near 1;sky p span 2=3;"), 0, 1, 1, 1, 7));
        s.holds("26: the sixth RULE", c -> {
            due(c, Check.told(THREE + "count if 1==1;".repeat(5) + "count if degree==90;near 0;sky p=90;"), 5, 1, 1, 1, 1);
        });
        s.holds("26: as KNOWN by n, in a YEAR", c -> {
            SkyStones x = Check.told(THREE + "count if stones==2;sky p=year;");
            x.gone(1);
            c.due("by 0", x.story(0, 1, 0, 0, 0), 2);
            c.due("by 1", x.story(0, 1, 0, 1, 0), 0);
            c.due("in 180", x.story(0, 1, 180, 0, 1), 1);
            c.due("in 90", x.story(0, 1, 90, 0, 1), 0);
        });
        s.holds("26: NONE: no RULES, though all COUNT", c -> c.due("story", Check.told(THREE).story(0, 0, 0, 0, 0), -1));
        SkyStones x = Check.told(THREE + "count if 1==1;count if 1==2;sky p=0;sky q=year;");
        x.move(0, 1, 1);
        for (int what = 0; what <= 2; what++) {
            int w = what;
            s.bounds("26: story, what " + w + ": the RULE", 0, 1, -1, v -> x.story(v, 1, 0, 1, w));
            s.bounds("26: story, what " + w + ": the set", 0, 3, -1, v -> x.story(0, v, 0, 1, w));
            s.bounds("26: story, what " + w + ": the YEAR", 0, 5000, -1, v -> x.story(0, 1, v, 1, w));
            s.bounds("26: story, what " + w + ": n", 0, 1, -1, v -> x.story(0, 1, 0, v, w));
        }
        s.bounds("26: story: what", 0, 2, -1, v -> x.story(0, 1, 0, 1, v));
    }

    private static void otherwise(Sentences s) {
        s.holds("27: none as KNOWN by the same", c -> {
            SkyStones x = Check.told(UP + "sky p=0;");
            x.gone(0);
            c.due("0 and 0", x.otherwise(1, 0, 0, 0), 0);
            c.due("1 and 1", x.otherwise(1, 0, 1, 1), 0);
        });
        s.holds("27: that HIT and are none", c -> {
            SkyStones x = Check.told(UP + "sky p=0;");
            x.gone(0);
            c.due("0 and 1", x.otherwise(1, 0, 0, 1), 1);
        });
        s.holds("27: not those that are none and then HIT", c -> {
            SkyStones x = Check.told(UP + "sky p=0;");
            x.gone(0);
            c.due("1 and 0", x.otherwise(1, 0, 1, 0), 0);
        });
        s.holds("27: that HIT and do not: moved", c -> {
            SkyStones x = Check.told(UP + "sky p=0;sky q=90;");
            x.move(1, 9, 0);
            c.due("p, 0 and 1", x.otherwise(1, 0, 0, 1), 1);
            c.due("q, 0 and 1", x.otherwise(2, 0, 0, 1), 0);
            c.due("q, 1 and 0", x.otherwise(2, 0, 1, 0), 1);
            c.due("both: it HITS by both", x.otherwise(3, 0, 0, 1), 0);
        });
        s.holds("27: that HIT and do not: it does not COUNT any more", c -> {
            SkyStones x = Check.told(UP + "sky p=0;count if gap==0;");
            x.date(0, 7);
            c.due("0 and 1", x.otherwise(1, 0, 0, 1), 1);
        });
        s.holds("27: that HIT and are none: at one place", c -> {
            SkyStones x = Check.told(UP + "sky p=0;sky q=180;");
            x.move(1, 0, 0);
            c.due("0 and 1", x.otherwise(3, 0, 0, 1), 2);
        });
        s.holds("27: (MAYBE), by n and by m", c -> {
            SkyStones x = Check.told(UP + "stone c 9 9 0;near 0;sky p span 1=1;");
            x.gone(1);
            x.move(2, 0, 99);
            c.due("0 and 1", x.otherwise(1, 0, 0, 1), 1);
            c.due("0 and 0", x.otherwise(1, 0, 0, 0), 0);
            c.due("2 and 1", x.otherwise(1, 0, 2, 1), 1);
            c.due("2 and 2", x.otherwise(1, 0, 2, 2), 0);
        });
        s.holds("27: of no PLACES none", c -> {
            SkyStones x = Check.told(UP + "sky p=0;");
            x.gone(0);
            c.due("0 and 1", x.otherwise(0, 0, 0, 1), 0);
        });
        SkyStones x = Check.told(UP + "sky p=0;sky q=year;");
        x.move(0, 1, 1);
        s.bounds("27: otherwise: the set", 0, 3, -1, v -> x.otherwise(v, 0, 0, 1));
        s.bounds("27: otherwise: the YEAR", 0, 5000, -1, v -> x.otherwise(1, v, 0, 1));
        s.bounds("27: otherwise: n", 0, 1, -1, v -> x.otherwise(1, 0, v, 1));
        s.bounds("27: otherwise: m", 0, 1, -1, v -> x.otherwise(1, 0, 0, v));
    }

    private static void free(Sentences s) {
        SkyStones x = Check.told(UP + "near 0;sky p=year;sky q=year+1;");
        s.holds("28: the first with the most HITS: it is a itself", c -> c.due("free", x.free(1, 0, 180, 1, 200), 180));
        s.holds("28: the first of alike ones", c -> c.due("free", x.free(1, 0, 0, 90, 5), 0));
        s.holds("28: nothing HITS: a", c -> c.due("free", x.free(1, 0, 1, 1, 100), 1));
        s.holds("28: the last of k", c -> c.due("free", x.free(1, 0, 131, 1, 50), 180));
        s.holds("28: one behind the last of k", c -> c.due("free", x.free(1, 0, 131, 1, 49), 131));
        s.holds("28: each by s more: it steps over it", c -> c.due("free", x.free(1, 0, 179, 2, 50), 179));
        s.holds("28: by 100, k 2, up to 5000", c -> {
            SkyStones y = Check.told(UP + "near 0;sky p=5000-year;");
            c.due("free", y.free(1, 0, 4900, 100, 2), 5000);
        });
        s.holds("28: by 1, k 200, up to 5000", c -> {
            SkyStones y = Check.told(UP + "count if degree==0;near 0;sky p=5000-year;");
            c.due("free", y.free(1, 0, 4801, 1, 200), 5000);
        });
        s.holds("28: the most, not the first that HITS", c -> {
            SkyStones y = Check.told(THREE + "near 0;sky p=year;sky q=year+90;");
            c.due("free", y.free(3, 0, 1, 1, 200), 90);
        });
        s.holds("28: of no PLACES: a", c -> c.due("free", x.free(0, 0, 77, 1, 200), 77));
        s.holds("28: without PLACES: a", c -> c.due("free", new SkyStones().free(0, 0, 77, 1, 200), 77));
        s.holds("28: as KNOWN by n", c -> {
            SkyStones y = Check.told(UP + "near 0;sky p=year;");
            y.move(1, 9, 0);
            c.due("by 0", y.free(1, 0, 1, 1, 200), 180);
            c.due("by 1", y.free(1, 1, 1, 1, 200), 90);
        });
        s.holds("28: (MAYBE)", c -> {
            SkyStones y = Check.told(UP + "near 0;sky p span 3=year;");
            c.due("free", y.free(1, 0, 100, 1, 100), 177);
        });
        s.holds("28: NONE: k is 0, though a is above 0", c -> c.due("free", x.free(1, 0, 100, 1, 0), -1));
        SkyStones y = Check.told(UP + "sky p=0;sky q=year;");
        y.move(0, 1, 1);
        s.bounds("28: free: the set", 0, 3, -1, v -> y.free(v, 1, 0, 1, 1));
        s.bounds("28: free: n", 0, 1, -1, v -> y.free(1, v, 0, 1, 1));
        s.bounds("28: free: a", 0, 5000, -1, v -> y.free(1, 1, v, 1, 1));
        s.bounds("28: free: s", 1, 100, -1, v -> y.free(1, 1, 0, v, 1));
        s.bounds("28: free: k", 1, 200, -1, v -> y.free(1, 1, 0, 1, v));
        s.bounds("28: free: a, so that no YEAR is above 5000", 0, 4801, -1, v -> y.free(1, 1, v, 1, 200));
        s.bounds("28: free: s, so that no YEAR is above 5000", 1, 25, -1, v -> y.free(1, 1, 25, v, 200));
        s.bounds("28: free: k, so that no YEAR is above 5000", 1, 51, -1, v -> y.free(1, 1, 0, 100, v));
    }

    private static void freer(Sentences s) {
        SkyStones x = Check.told(UP + "near 0;sky p=year;");
        s.holds("29: no fewer HITS: all, if none is asked", c -> c.due("freer", x.freer(1, 0, 0, 1, 200, 7), 200));
        s.holds("29: no fewer HITS: alike ones", c -> c.due("freer", x.freer(1, 0, 0, 1, 200, 180), 2));
        s.holds("29: the told YEAR itself is one, if it is among them", c -> c.due("freer", x.freer(1, 0, 180, 1, 1, 180), 1));
        s.holds("29: the told YEAR is not among them", c -> c.due("freer", x.freer(1, 0, 181, 1, 100, 180), 0));
        s.holds("29: the last of k", c -> c.due("freer", x.freer(1, 0, 131, 1, 50, 0), 1));
        s.holds("29: one behind the last of k", c -> c.due("freer", x.freer(1, 0, 131, 1, 49, 0), 0));
        s.holds("29: by 100, up to 5000", c -> {
            SkyStones y = Check.told(UP + "near 0;sky p=5000-year;");
            c.due("freer", y.freer(1, 0, 4900, 100, 2, 5000), 1);
        });
        s.holds("29: more HITS too", c -> {
            SkyStones y = Check.told(THREE + "near 0;sky p=year;sky q=year+90;");
            c.due("as many as 1", y.freer(3, 0, 1, 1, 200, 135), 4);
            c.due("as many as 2", y.freer(3, 0, 1, 1, 200, 0), 2);
        });
        s.holds("29: without PLACES: all", c -> c.due("freer", new SkyStones().freer(0, 0, 77, 1, 200, 5000), 200));
        s.holds("29: (MAYBE)", c -> {
            SkyStones y = Check.told(UP + "near 0;sky p span 3=year;");
            c.due("as many as 1", y.freer(1, 0, 100, 1, 100, 183), 7);
            c.due("as many as none", y.freer(1, 0, 100, 1, 100, 184), 100);
        });
        s.holds("29: NONE: k is 0, though a is above 0", c -> c.due("freer", x.freer(1, 0, 100, 1, 0, 0), -1));
        SkyStones y = Check.told(UP + "sky p=0;sky q=year;");
        y.move(0, 1, 1);
        s.bounds("29: freer: the set", 0, 3, -1, v -> y.freer(v, 1, 0, 1, 1, 0));
        s.bounds("29: freer: n", 0, 1, -1, v -> y.freer(1, v, 0, 1, 1, 0));
        s.bounds("29: freer: a", 0, 5000, -1, v -> y.freer(1, 1, v, 1, 1, 0));
        s.bounds("29: freer: s", 1, 100, -1, v -> y.freer(1, 1, 0, v, 1, 0));
        s.bounds("29: freer: k", 1, 200, -1, v -> y.freer(1, 1, 0, 1, v, 0));
        s.bounds("29: freer: the told YEAR", 0, 5000, -1, v -> y.freer(1, 1, 0, 1, 1, v));
        s.bounds("29: freer: a, so that no YEAR is above 5000", 0, 4801, -1, v -> y.freer(1, 1, v, 1, 200, 0));
        s.bounds("29: freer: s, so that no YEAR is above 5000", 1, 25, -1, v -> y.freer(1, 1, 25, v, 200, 0));
        s.bounds("29: freer: k, so that no YEAR is above 5000", 1, 51, -1, v -> y.freer(1, 1, 0, 100, v, 0));
    }

    private static void next(Sentences s) {
        s.holds("30: -2: no THINGS", c -> c.due("next", new SkyStones().next(0, 0, 0), -2));
        s.holds("30: -2: THINGS that are all GONE", c -> {
            SkyStones x = Check.told(UP + "sky p=0;");
            x.gone(0);
            x.gone(1);
            c.due("by 2", x.next(1, 0, 2), -2);
            c.due("by 1: the one that is left", x.next(1, 0, 1), 1);
            c.due("by 0", x.next(1, 0, 0), 0);
        });
        s.holds("30: -2: one that is not yet FOUND", c -> {
            SkyStones x = new SkyStones();
            x.found(1, 1, 1);
            c.due("by 0", x.next(0, 0, 0), -2);
            c.due("by 1", x.next(0, 0, 1), 0);
        });
        s.holds("30: one THING without LINES", c -> c.due("next", Check.told("stone a 1 1 1;sky p=0;").next(1, 0, 0), 0));
        s.holds("30: nothing HITS: the least that is not GONE", c -> {
            SkyStones x = Check.told(THREE + "sky p=45;");
            x.gone(0);
            c.due("by 0", x.next(1, 0, 0), 0);
            c.due("by 1", x.next(1, 0, 1), 1);
        });
        s.holds("30: of alike ones the least", c -> c.due("next", Check.told(THREE + "near 0;sky p=135;").next(1, 0, 0), 1));
        s.holds("30: HITS are changed most", c -> c.due("next", Check.told(THREE + "near 0;sky p=90;sky q=135;").next(3, 0, 0), 2));
        s.holds("30: all its LINES: from it and to it", c -> {
            c.due("next", Check.told(THREE + "near 0;sky p=0;sky q=135;").next(3, 0, 0), 1);
        });
        s.holds("30: (MAYBE)", c -> c.due("next", Check.told(THREE + "near 0;sky p span 1=134;").next(1, 0, 0), 1));
        s.holds("30: it COUNTS", c -> {
            c.due("next", Check.told(THREE + "near 0;sky p=0;sky q=135;count if degree==135;").next(3, 0, 0), 1);
            c.due("next", Check.told(THREE + "near 0;sky p=0;sky q=135;count if degree==0;").next(3, 0, 0), 0);
        });
        s.holds("30: the 14th THING", c -> {
            StringBuilder text = new StringBuilder();
            for (int i = 0; i < 13; i++) {
                text.append("stone t").append((char) ('a' + i)).append(" 0 ").append(i).append(" 0;");
            }
            SkyStones x = Check.told(text + "hole z 99 0 0;count if stones==1;near 20;sky p span 20=90;");
            c.due("next", x.next(1, 0, 0), 13);
        });
        SkyStones x = Check.told(UP + "sky p=0;sky q=year;");
        x.move(0, 1, 1);
        s.bounds("30: next: the set", 0, 3, -1, v -> x.next(v, 0, 1));
        s.bounds("30: next: the YEAR", 0, 5000, -1, v -> x.next(1, v, 1));
        s.bounds("30: next: n", 0, 1, -1, v -> x.next(1, 0, v));
        SkyStones none = new SkyStones();
        s.bounds("30: next without THINGS: the set", 0, 0, -1, v -> none.next(v, 0, 0));
        s.bounds("30: next without THINGS: the YEAR", 0, 5000, -1, v -> none.next(0, v, 0));
        s.bounds("30: next without THINGS: n", 0, 0, -1, v -> none.next(0, 0, v));
    }

    private static void say(Sentences s, String sentence, String text, int line, int due) {
        s.holds("42: " + sentence + ": " + text + " line " + line, c -> c.due("say", Check.told(text).say(line, 0, 0), due));
    }

    private static void say(Sentences s) {
        say(s, "0 there is none such, nothing told", "", 0, 0);
        say(s, "0 there is none such, the last number", UP + "sky p=0;", 195, 0);
        say(s, "0 there is none such, to itself", UP + "sky p=0;", 0, 0);
        s.holds("42: 0 it is GONE; at one place", c -> {
            SkyStones x = Check.told(UP + "near 0;sky p=0;");
            x.gone(1);
            x.annul(0);
            x.move(1, 0, 0);
            int[] due = {4, 0, 4, 0};
            for (int n = 0; n <= 3; n++) {
                c.due("by " + n, x.say(1, 0, n), due[n]);
            }
        });
        say(s, "1 it does not COUNT, though meant, though it would hit", UP + "door a b;near 0;sky p=0;count if 1==2;", 1, 1);
        say(s, "2 it hits nothing, though meant", UP + "door a b;near 0;sky p=1;", 1, 2);
        say(s, "2 it hits nothing: without PLACES", UP + "door a b;", 1, 2);
        say(s, "2 it hits nothing, MAYBE by one too far", UP + "door a b;near 3;sky p span 2=6;", 1, 2);
        say(s, "4 it is neither meant nor back", UP + "near 0;sky p=0;", 1, 4);
        say(s, "4 ahead of MAYBE alone", UP + "near 0;sky p span 1=0;", 1, 4);
        say(s, "5 MAYBE alone, meant", UP + "door a b;near 0;sky p span 1=0;", 1, 5);
        say(s, "5 MAYBE alone, back", UP + "door a b;near 0;sky p span 1=180;", 14, 5);
        say(s, "6 SURELY, meant", UP + "door a b;near 0;sky p=0;", 1, 6);
        say(s, "6 SURELY, back", UP + "door a b;near 0;sky p=180;", 14, 6);
        say(s, "6 of all PLACES: one MAYBE, the last SURELY", UP + "door a b;near 1;sky p span 1=1;sky q span 1=0;", 1, 6);
        SkyStones x = Check.told(UP + "sky p=0;sky q=year;");
        x.move(0, 1, 1);
        s.bounds("42: say: the LINE", 0, 195, -1, v -> x.say(v, 0, 1));
        s.bounds("42: say: the YEAR", 0, 5000, -1, v -> x.say(1, v, 1));
        s.bounds("42: say: n", 0, 1, -1, v -> x.say(1, 0, v));
        s.bounds("42: say of none such: the YEAR", 0, 5000, -1, v -> x.say(0, v, 1));
        s.bounds("42: say of none such: n", 0, 1, -1, v -> x.say(0, 0, v));
        s.bounds("42: say of what does not COUNT: the YEAR", 0, 5000, -1,
            v -> Check.told(UP + "count if 1==2;").say(1, v, 0));
    }

    /** Of one LINE that COUNTS what is near is 2 * (NEAR + SPAN) + 1 turns, of two LINES twice that. */
    private static void sayMany(Sentences s) {
        String one = UP + "door a b;count if degree==0;";
        String two = UP + "door a b;";
        say(s, "3 AS MANY are 17: not", one + "near 8;sky p=8;", 1, 6);
        say(s, "3 AS MANY are 18: not", two + "near 4;sky p=4;", 1, 6);
        say(s, "3 AS MANY are 19", one + "near 9;sky p=9;", 1, 3);
        say(s, "3 AS MANY are 22", two + "near 5;sky p=5;", 1, 3);
        say(s, "3 ahead of neither meant nor back", UP + "count if degree==0;near 9;sky p=9;", 1, 3);
        say(s, "3 AS MANY of all LINES that COUNT, not of the one", two + "near 4;sky p=0;sky q=180;sky r=20;sky s=200;", 1, 3);
        say(s, "3 AS MANY of all PLACES: 18 by two of them", one + "near 4;sky p=4;sky q=100;", 1, 6);
        say(s, "3 AS MANY of all PLACES: 19 by three of them", one + "near 4;sky p=4;sky q=100;sky r=105;", 1, 3);
    }
}
