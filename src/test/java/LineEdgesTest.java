/** II, DEGREES, LINES, HEIGHTS, PLACES, what HITS, and promises 12 to 20: each sentence that names an edge. */
final class LineEdgesTest {
    private static final String UP = "stone a 0 0 0;stone b 0 9 0;";

    public static void main(String[] args) {
        Sentences s = new Sentences();
        degrees(s);
        vectors(s);
        lines(s);
        traits(s);
        counting(s);
        heights(s);
        rises(s);
        apart(s);
        spans(s);
        hits(s);
        hitAt(s);
        s.end();
    }

    // ---- 12 and 13

    private static void degree(Sentences s, String sentence, int e, int n, int due) {
        s.holds("12: " + sentence + ": " + e + " " + n, c -> c.due("degree", new SkyStones().degree(e, n), due));
    }

    private static void degrees(Sentences s) {
        degree(s, "e not below 0 and n above 0, e 0", 0, 1, 0);
        degree(s, "a not above b", 1, 2, 22);
        degree(s, "a not above b, alike", 5, 5, 45);
        degree(s, "else 90 - q, the next to alike", 5, 4, 54);
        degree(s, "else 90 - q, rounded down to 90", 46, 1, 90);
        degree(s, "e above 0, n not above 0, n 0", 1, 0, 90);
        degree(s, "b not above a", 5, -4, 126);
        degree(s, "b not above a, alike", 5, -5, 135);
        degree(s, "else 180 - q", 4, -5, 144);
        degree(s, "else 180 - q, rounded down to 180", 1, -46, 180);
        degree(s, "e not above 0, n below 0, e 0", 0, -1, 180);
        degree(s, "a not above b", -4, -5, 216);
        degree(s, "a not above b, alike", -5, -5, 225);
        degree(s, "else 270 - q", -5, -4, 234);
        degree(s, "else 270 - q, rounded down to 270", -46, -1, 270);
        degree(s, "else: n 0", -1, 0, 270);
        degree(s, "else: b not above a", -5, 4, 306);
        degree(s, "else: b not above a, alike", -5, 5, 315);
        degree(s, "else 360 - q", -4, 5, 324);
        degree(s, "else 360 - q, the last one", -1, 45, 359);
        degree(s, "360 is 0", -1, 46, 0);
        degree(s, "q rounded down", 44, 45, 44);
        degree(s, "q rounded down, just below a whole number", 1999, 3999, 22);
        degree(s, "q rounded down, a whole number", 1, 3, 15);
        degree(s, "the greatest", 9999, 9999, 45);
        degree(s, "the greatest and the next", 9998, 9999, 44);
        degree(s, "the least", -9999, -9999, 225);
        degree(s, "NONE: both 0", 0, 0, -1);
        SkyStones x = new SkyStones();
        s.bounds("12: degree: e", -9999, 9999, -1, v -> x.degree(v, 1));
        s.bounds("12: degree: n", -9999, 9999, -1, v -> x.degree(1, v));
        s.bounds("12: degree: e, n 0", 1, 9999, -1, v -> x.degree(v, 0));
    }

    private static void vectors(Sentences s) {
        int[][] due = {{0, 0, 45}, {1, 1, 45}, {44, 44, 45}, {45, 45, 45}, {46, 45, 44}, {89, 45, 1}, {90, 45, 0},
            {91, 45, -1}, {134, 45, -44}, {135, 45, -45}, {136, 44, -45}, {179, 1, -45}, {180, 0, -45}, {181, -1, -45},
            {224, -44, -45}, {225, -45, -45}, {226, -45, -44}, {269, -45, -1}, {270, -45, 0}, {271, -45, 1},
            {314, -45, 44}, {315, -45, 45}, {316, -44, 45}, {359, -1, 45}};
        SkyStones x = new SkyStones();
        for (int[] row : due) {
            s.holds("13: the VECTOR of " + row[0], c -> {
                c.due("east", x.vector(row[0], 0), row[1]);
                c.due("north", x.vector(row[0], 1), row[2]);
            });
        }
        s.holds("13: the DEGREE of each VECTOR is its own", c -> {
            for (int d = 0; d < 360; d++) {
                SkyStones y = new SkyStones();
                c.due("degree " + d, y.degree(y.vector(d, 0), y.vector(d, 1)), d);
            }
        });
        s.bounds("13: vector: the DEGREE", 0, 359, -100, v -> x.vector(v, 0));
        s.bounds("13: vector: what", 0, 1, -100, v -> x.vector(0, v));
    }

    // ---- 14 and 15

    private static String fourteen() {
        StringBuilder all = new StringBuilder();
        for (int i = 0; i < 14; i++) {
            all.append("hole t").append((char) ('a' + i)).append(' ').append(i).append(' ').append(7 * i).append(" 0;");
        }
        return all.toString();
    }

    private static void lines(Sentences s) {
        s.holds("14: numbered by 14 * the first + the second: 0 .. 195", c -> {
            SkyStones x = Check.told(fourteen());
            for (int line = -1; line <= 196; line++) {
                boolean there = line >= 0 && line < 196 && line / 14 != line % 14;
                c.due("line " + line, x.line(line, 3, 0), there ? 0 : -1);
            }
        });
        s.holds("14: both ways", c -> {
            SkyStones x = Check.told(UP);
            c.due("a b", x.line(1, 0, 0), 0);
            c.due("b a", x.line(14, 0, 0), 180);
        });
        s.holds("14: no LINE from a THING to itself", c -> {
            SkyStones x = Check.told(UP);
            c.due("a a", x.line(0, 0, 0), -1);
            c.due("b b", x.line(15, 0, 0), -1);
        });
        s.holds("14: no LINE to a THING that is not there", c -> {
            SkyStones x = Check.told(UP);
            c.due("a and the next", x.line(2, 0, 0), -1);
            c.due("the next and a", x.line(28, 0, 0), -1);
            c.due("the last", x.line(195, 0, 0), -1);
        });
        s.holds("15: how many: none, of no THING or one", c -> {
            c.due("of none", new SkyStones().lines(false, 0), 0);
            c.due("of one", Check.told("stone a 1 1 1;").lines(false, 0), 0);
            c.due("of one, that COUNT", Check.told("stone a 1 1 1;").lines(true, 0), 0);
        });
        s.holds("15: how many: 182 of 14 THINGS", c -> {
            SkyStones x = Check.told(fourteen());
            c.due("all", x.lines(false, 0), 182);
            c.due("that COUNT", x.lines(true, 0), 182);
        });
        s.holds("15: none if both are at one place, all 14", c -> {
            SkyStones x = Check.told(fourteen());
            for (int i = 0; i < 13; i++) {
                x.move(i + 1, 0, 0);
            }
            c.due("by 12: the last one and the others", x.lines(false, 12), 2 * 13);
            c.due("by 13", x.lines(false, 13), 0);
        });
        SkyStones x = Check.told(UP + "stone c 9 9 9;");
        x.gone(2);
        s.bounds("14: line: the LINE", 1, 1, -1, v -> x.line(v, 0, 1));
        s.bounds("14: line: what", 0, 7, -1, v -> x.line(1, v, 1));
        s.bounds("14: line: n", 0, 1, -1, v -> x.line(1, 0, v));
        s.bounds("15: lines: n", 0, 1, -1, v -> x.lines(false, v));
        s.bounds("15: lines that COUNT: n", 0, 1, -1, v -> x.lines(true, v));
    }

    private static void trait(Sentences s, String sentence, String text, int what, int ab, int ba) {
        s.holds("14: " + sentence, c -> {
            SkyStones x = Check.told(text);
            c.due("a b", x.line(1, what, 0), ab);
            c.due("b a", x.line(14, what, 0), ba);
        });
    }

    private static void traits(Sentences s) {
        trait(s, "its DEGREE", "stone a 0 999 0;stone b 999 0 9999;", 0, 135, 315);
        trait(s, "gap: how far the ages are apart", "stone a 0 999 0;stone b 999 0 9999;", 1, 9999, 9999);
        trait(s, "gap: of ages that are alike", "stone a 0 999 7;stone b 999 0 7;", 1, 0, 0);
        trait(s, "far: the greater of a and b, alike", "stone a 0 999 0;stone b 999 0 0;", 2, 999, 999);
        trait(s, "far: the greater of a and b, east", "stone a 10 10 0;stone b 3 12 0;", 2, 7, 7);
        trait(s, "far: the greater of a and b, north", "stone a 10 10 0;stone b 12 3 0;", 2, 7, 7);
        trait(s, "far: 1", "stone a 10 10 0;stone b 10 11 0;", 2, 1, 1);
        trait(s, "stones: none of the two", "hole a 10 10 0;hole b 10 11 0;", 3, 0, 0);
        trait(s, "stones: one of the two", "hole a 10 10 0;stone b 10 11 0;", 3, 1, 1);
        trait(s, "stones: both", "stone a 10 10 0;stone b 10 11 0;", 3, 2, 2);
        trait(s, "meant: without a DOOR", UP, 4, 0, 0);
        trait(s, "meant: one way", UP + "door a b;", 4, 1, 0);
        trait(s, "meant: both ways", UP + "door a b;door b a;", 4, 1, 1);
        trait(s, "meant: told twice", UP + "door a b;door a b;", 4, 1, 0);
        trait(s, "back: without a DOOR", UP, 5, 0, 0);
        trait(s, "back: the other way", UP + "door a b;", 5, 0, 1);
        trait(s, "back: both ways", UP + "door a b;door b a;", 5, 1, 1);
        trait(s, "back: told twice", UP + "door a b;door a b;", 5, 0, 1);
        trait(s, "old: the lesser age", "stone a 0 0 9999;stone b 0 9 0;", 6, 0, 0);
        trait(s, "old: of ages that are alike", "stone a 0 0 9999;stone b 0 9 9999;", 6, 9999, 9999);
        trait(s, "it COUNTS without RULES", UP, 7, 1, 1);
        trait(s, "it COUNTS, one way alone", UP + "count if degree==180;", 7, 0, 1);
        s.holds("14: as KNOWN by n: moved, dated", c -> {
            SkyStones x = Check.told(UP + "door a b;");
            x.move(1, 9, 0);
            x.date(1, 70);
            x.found(9, 9, 9);
            int[] due = {90, 70, 9, 2, 1, 0, 0, 1};
            for (int what = 0; what <= 7; what++) {
                c.due("what " + what, x.line(1, what, 3), due[what]);
            }
            c.due("a FOUND one is a hole", x.line(2, 3, 3), 1);
            c.due("and no DOOR's", x.line(2, 4, 3), 0);
        });
    }

    private static void counting(Sentences s) {
        s.holds("14: without RULES all COUNT", c -> c.due("lines", Check.told(UP).lines(true, 0), 2));
        s.holds("14: the COND of some RULE: the last of six", c -> {
            SkyStones x = Check.told(UP + "count if 1==2;".repeat(5) + "count if degree==0;");
            c.due("a b", x.line(1, 7, 0), 1);
            c.due("b a", x.line(14, 7, 0), 0);
            c.due("lines", x.lines(true, 0), 1);
        });
        s.holds("14: the COND of some RULE: the first of six", c -> {
            SkyStones x = Check.told(UP + "count if degree==0;" + "count if 1==2;".repeat(5));
            c.due("a b", x.line(1, 7, 0), 1);
        });
        s.holds("14: of no RULE: none COUNTS", c -> {
            SkyStones x = Check.told(UP + "count if 1==2;");
            c.due("a b", x.line(1, 7, 0), 0);
            c.due("those that COUNT", x.lines(true, 0), 0);
            c.due("all", x.lines(false, 0), 2);
        });
        s.holds("14: of several RULES: it COUNTS once", c -> {
            SkyStones x = Check.told(UP + "count if 1==1;count if 2==2;");
            c.due("lines", x.lines(true, 0), 2);
        });
    }

    // ---- 16 and 17

    private static void height(Sentences s, String sentence, String hills, int degree, int due) {
        s.holds("16: " + sentence + ": " + hills + " at " + degree, c -> c.due("height", Check.told(hills).height(degree), due));
    }

    private static void heights(Sentences s) {
        height(s, "0 without a HILL", "", 0, 0);
        height(s, "ahead of a HILL", "hill 10 20 7;", 9, 0);
        height(s, "a HILL's first DEGREE", "hill 10 20 7;", 10, 7);
        height(s, "a HILL's last DEGREE", "hill 10 20 7;", 20, 7);
        height(s, "behind a HILL", "hill 10 20 7;", 21, 0);
        height(s, "of one DEGREE", "hill 10 10 7;", 10, 7);
        height(s, "of one DEGREE, the one ahead", "hill 10 10 7;", 9, 0);
        height(s, "of one DEGREE, the next", "hill 10 10 7;", 11, 0);
        height(s, "beyond 359 from 0 on, ahead of the first", "hill 350 10 7;", 349, 0);
        height(s, "beyond 359 from 0 on, the first", "hill 350 10 7;", 350, 7);
        height(s, "beyond 359 from 0 on, 359", "hill 350 10 7;", 359, 7);
        height(s, "beyond 359 from 0 on, 0", "hill 350 10 7;", 0, 7);
        height(s, "beyond 359 from 0 on, the last", "hill 350 10 7;", 10, 7);
        height(s, "beyond 359 from 0 on, behind the last", "hill 350 10 7;", 11, 0);
        height(s, "359 to 0", "hill 359 0 7;", 359, 7);
        height(s, "359 to 0", "hill 359 0 7;", 0, 7);
        height(s, "359 to 0, not the next", "hill 359 0 7;", 1, 0);
        height(s, "359 to 0, not the one ahead", "hill 359 0 7;", 358, 0);
        height(s, "0 to 359 is all, 0", "hill 0 359 7;", 0, 7);
        height(s, "0 to 359 is all, 359", "hill 0 359 7;", 359, 7);
        height(s, "b one below a is all", "hill 100 99 7;", 99, 7);
        height(s, "b one below a is all", "hill 100 99 7;", 100, 7);
        height(s, "b one below a is all", "hill 100 99 7;", 280, 7);
        height(s, "the last HILL told over it, though lower", "hill 10 20 7;hill 20 30 3;", 20, 3);
        height(s, "the last HILL told over it, of height 0", "hill 10 20 7;hill 15 15 0;", 15, 0);
        height(s, "not the last HILL told, if it is not over it", "hill 10 20 7;hill 20 30 3;", 19, 7);
        height(s, "a height 20", "hill 10 20 20;", 10, 20);
        height(s, "the 12th HILL", "hill 10 20 7;".repeat(11) + "hill 20 20 9;", 20, 9);
        SkyStones x = Check.told("hill 5 6 7;");
        s.bounds("16: height: the DEGREE", 0, 359, -1, x::height);
    }

    private static void rises(Sentences s) {
        s.holds("17: the rest by 360, then likewise with the HEIGHT of that DEGREE", c -> {
            SkyStones x = Check.told("hill 30 30 5;sky p=390+height*10;");
            c.due("rise", x.rise(0, 0), 80);
        });
        s.holds("17: with the HEIGHT of the first DEGREE, not of the one it comes to", c -> {
            SkyStones x = Check.told("hill 30 30 5;hill 80 80 9;sky p=30+height*10;");
            c.due("rise", x.rise(0, 0), 80);
        });
        s.holds("17: 0 .. 359 of what is below 0, both times", c -> {
            SkyStones x = Check.told("hill 359 359 20;sky p=0-1-height*20;");
            c.due("rise", x.rise(0, 0), 319);
        });
        s.holds("17: without HILLS it is E with height 0", c -> c.due("rise", Check.told("sky p=7+height;").rise(0, 0), 7));
        SkyStones x = Check.told("sky p=year;sky q=2;");
        s.bounds("17: rise: the PLACE", 0, 1, -1, v -> x.rise(v, 0));
        s.bounds("17: rise: the YEAR", 0, 5000, -1, v -> x.rise(0, v));
        s.holds("17: the first YEAR and the last", c -> {
            c.due("0", x.rise(0, 0), 0);
            c.due("5000", x.rise(0, 5000), 5000 % 360);
        });
        s.holds("17: NONE: no PLACES", c -> c.due("rise", new SkyStones().rise(0, 0), -1));
        SkyStones five = Check.told("sky p=1;sky q=1;sky r=1;sky s=1;sky t=5;");
        s.bounds("17: rise: of five PLACES", 0, 4, -1, v -> five.rise(v, 0));
    }

    // ---- 18: of the LINE at 0 (and of the one at 180)

    private static void hit(Sentences s, String sentence, String near, String sky, int line, int due) {
        s.holds("18: " + sentence + ": " + near + sky + " line " + line, c -> {
            SkyStones x = Check.told(UP + near + sky);
            c.due("hit", x.hit(line, 0, 0, 0), due);
        });
    }

    private static void apart(Sentences s) {
        String near = "near 20;";
        hit(s, "APART: the lesser way round, upwards", near, "sky p=20;", 1, 2);
        hit(s, "APART: the lesser way round, upwards, one more", near, "sky p=21;", 1, 0);
        hit(s, "APART: the lesser way round, beyond 0", near, "sky p=340;", 1, 2);
        hit(s, "APART: the lesser way round, beyond 0, one more", near, "sky p=339;", 1, 0);
        hit(s, "APART: half way round", near, "sky p span 20=180;", 1, 0);
        hit(s, "APART: 359 and 0", "near 1;", "sky p=359;", 1, 2);
        hit(s, "APART: alike", "near 0;", "sky p=0;", 1, 2);
        hit(s, "APART: alike, the LINE at 180", "near 0;", "sky p=180;", 14, 2);
        hit(s, "APART: 160 and 180", near, "sky p=160;", 14, 2);
        hit(s, "APART: 200 and 180", near, "sky p=200;", 14, 2);
        hit(s, "APART: 201 and 180", near, "sky p=201;", 14, 0);
    }

    private static void spans(Sentences s) {
        hit(s, "SURELY: no more than NEAR less its SPAN", "near 5;", "sky p span 2=3;", 1, 2);
        hit(s, "one more: MAYBE alone", "near 5;", "sky p span 2=4;", 1, 1);
        hit(s, "MAYBE: no more than NEAR and its SPAN", "near 5;", "sky p span 2=7;", 1, 1);
        hit(s, "one more: 0", "near 5;", "sky p span 2=8;", 1, 0);
        hit(s, "NEAR as great as its SPAN: SURELY if alike", "near 5;", "sky p span 5=0;", 1, 2);
        hit(s, "NEAR as great as its SPAN: next to it", "near 5;", "sky p span 5=1;", 1, 1);
        hit(s, "NEAR below its SPAN: never SURELY", "near 5;", "sky p span 6=0;", 1, 1);
        hit(s, "NEAR 0, a SPAN 20", "near 0;", "sky p span 20=20;", 1, 1);
        hit(s, "NEAR 0, a SPAN 20, one more", "near 0;", "sky p span 20=21;", 1, 0);
        hit(s, "NEAR 0, SPAN 0: alike alone", "near 0;", "sky p=1;", 1, 0);
        hit(s, "NEAR 20, a SPAN 20", "near 20;", "sky p span 20=40;", 1, 1);
        hit(s, "NEAR 20, a SPAN 20, one more", "near 20;", "sky p span 20=41;", 1, 0);
        hit(s, "if it COUNTS or not", "count if 1==2;", "sky p=0;", 1, 2);
        SkyStones x = Check.told(UP + "stone c 9 9 9;sky p=0;sky q=1;");
        x.gone(2);
        s.bounds("18: hit: the LINE", 1, 1, -1, v -> x.hit(v, 0, 0, 1));
        s.bounds("18: hit: the PLACE", 0, 1, -1, v -> x.hit(1, v, 0, 1));
        s.bounds("18: hit: the YEAR", 0, 5000, -1, v -> x.hit(1, 0, v, 1));
        s.bounds("18: hit: n", 0, 1, -1, v -> x.hit(1, 0, 0, v));
        s.holds("18: NONE: no LINE, though the number is one", c -> {
            c.due("to itself", x.hit(0, 0, 0, 1), -1);
            c.due("GONE", x.hit(2, 0, 0, 1), -1);
            c.due("not GONE yet", x.hit(2, 0, 0, 0), 0);
            c.due("195", x.hit(195, 0, 0, 0), -1);
        });
    }

    // ---- 19 and 20

    private static void hits(Sentences s) {
        s.holds("19: of no PLACES: 0", c -> {
            c.due("the empty set", Check.told(UP + "sky p=0;").hits(0, 0, 0, false, 0), 0);
            c.due("nothing told", new SkyStones().hits(0, 0, 0, false, 0), 0);
        });
        s.holds("19: bits: the lowest is PLACE 0, the highest the last", c -> {
            SkyStones x = Check.told(UP + "near 0;sky p=0;sky q=1;sky r=1;sky s=1;sky t=180;");
            c.due("p", x.hits(1, 0, 0, false, 0), 1);
            c.due("q, r, s", x.hits(14, 0, 0, false, 0), 0);
            c.due("t", x.hits(16, 0, 0, false, 0), 1);
            c.due("all", x.hits(31, 0, 0, false, 0), 2);
        });
        s.holds("19: a LINE that hits two PLACES HITS once", c -> {
            SkyStones x = Check.told(UP + "sky p=0;sky q=1;");
            c.due("hits", x.hits(3, 0, 0, false, 0), 1);
        });
        s.holds("19: it HITS if it COUNTS", c -> {
            SkyStones x = Check.told(UP + "sky p=0;count if degree==180;");
            c.due("hits", x.hits(1, 0, 0, false, 0), 0);
        });
        s.holds("19: MAYBE; sure: SURELY", c -> {
            SkyStones x = Check.told(UP + "near 1;sky p span 1=1;sky q span 1=180;");
            c.due("MAYBE", x.hits(3, 0, 0, false, 0), 2);
            c.due("SURELY", x.hits(3, 0, 0, true, 0), 1);
        });
        s.holds("19: TURNED: 360 is 0", c -> {
            SkyStones x = Check.told("stone a 1 0 0;stone b 0 45 0;near 0;sky p=0;sky q=358;count if degree==359;");
            c.due("359 by 1", x.hits(1, 0, 1, false, 0), 1);
            c.due("359 by 0", x.hits(1, 0, 0, false, 0), 0);
            c.due("359 by 359", x.hits(2, 0, 359, false, 0), 1);
            c.due("359 by 2", x.hits(1, 0, 2, false, 0), 0);
            c.due("359 by 358", x.hits(2, 0, 358, false, 0), 0);
        });
        s.holds("19: TURNED: 0 by 359", c -> {
            SkyStones x = Check.told(UP + "near 0;sky p=359;count if degree==0;");
            c.due("by 359", x.hits(1, 0, 359, false, 0), 1);
            c.due("by 358", x.hits(1, 0, 358, false, 0), 0);
        });
        s.holds("19: TURNED: what COUNTS stays as it is", c -> {
            SkyStones x = Check.told(UP + "near 0;sky p=90;count if degree==0;");
            c.due("0 by 90", x.hits(1, 0, 90, false, 0), 1);
            c.due("180 by 270 does not COUNT", x.hits(1, 0, 270, false, 0), 0);
        });
        s.holds("19: TURNED: PLACES, HILLS stay", c -> {
            SkyStones x = Check.told(UP + "near 0;hill 40 40 5;sky p=40+height;count if degree==0;");
            c.due("by 45", x.hits(1, 0, 45, false, 0), 1);
            c.due("by 40", x.hits(1, 0, 40, false, 0), 0);
        });
        s.holds("19: in the last YEAR", c -> {
            SkyStones x = Check.told(UP + "near 0;sky p=5000-year;");
            c.due("5000", x.hits(1, 5000, 0, false, 0), 1);
            c.due("4999", x.hits(1, 4999, 0, false, 0), 0);
        });
        SkyStones x = Check.told(UP + "sky p=0;sky q=1;");
        x.move(1, 0, 8);
        s.bounds("19: hits: the set", 0, 3, -1, v -> x.hits(v, 0, 0, false, 1));
        s.bounds("19: hits: the YEAR", 0, 5000, -1, v -> x.hits(1, v, 0, false, 1));
        s.bounds("19: hits: t", 0, 359, -1, v -> x.hits(1, 0, v, false, 1));
        s.bounds("19: hits: n", 0, 1, -1, v -> x.hits(1, 0, 0, false, v));
        s.bounds("19: hits, sure: the set", 0, 3, -1, v -> x.hits(v, 0, 0, true, 1));
        s.bounds("19: hits, without PLACES: the set", 0, 0, -1, v -> new SkyStones().hits(v, 0, 0, false, 0));
        SkyStones five = Check.told("sky p=1;sky q=1;sky r=1;sky s=1;sky t=5;");
        s.bounds("19: hits, of five PLACES: the set", 0, 31, -1, v -> five.hits(v, 0, 0, false, 0));
    }

    private static void hitAt(Sentences s) {
        SkyStones x = Check.told(UP + "stone c 0 99 0;sky p=0;sky q=180;");
        x.move(1, 0, 8);
        s.holds("20: the i-th LINE, by numbers", c -> {
            int[] up = {1, 2, 16, -1};
            int[] down = {14, 28, 29, -1};
            int[] all = {1, 2, 14, 16, 28, 29, -1};
            for (int i = 0; i < 4; i++) {
                c.due("up " + i, x.hitAt(1, 0, false, 0, i), up[i]);
                c.due("down " + i, x.hitAt(2, 0, true, 0, i), down[i]);
            }
            for (int i = 0; i < 7; i++) {
                c.due("all " + i, x.hitAt(3, 0, false, 0, i), all[i]);
            }
        });
        s.holds("20: NONE: nothing HITS", c -> c.due("hitAt", x.hitAt(0, 0, false, 0, 0), -1));
        s.holds("20: that HITS: it COUNTS", c -> {
            SkyStones y = Check.told(UP + "stone c 0 99 0;sky p=0;count if far==99;");
            c.due("the first", y.hitAt(1, 0, false, 0, 0), 2);
            c.due("no other", y.hitAt(1, 0, false, 0, 1), -1);
        });
        s.holds("20: sure: SURELY", c -> {
            SkyStones y = Check.told(UP + "near 0;sky p span 1=0;");
            c.due("MAYBE", y.hitAt(1, 0, false, 0, 0), 1);
            c.due("SURELY", y.hitAt(1, 0, true, 0, 0), -1);
        });
        s.holds("20: the last of 182", c -> {
            SkyStones y = Check.told(fourteen() + "near 20;sky p span 20=0;sky q span 20=72;sky r span 20=144;"
                + "sky s span 20=216;sky t span 20=288;");
            c.due("the first", y.hitAt(31, 0, false, 0, 0), 1);
            c.due("the last", y.hitAt(31, 0, false, 0, 181), 194);
            c.due("no more", y.hitAt(31, 0, false, 0, 182), -1);
        });
        s.bounds("20: hitAt: the set", 1, 3, -1, v -> x.hitAt(v, 0, false, 1, 0));
        s.holds("20: NONE: a set below 0", c -> c.due("hitAt", x.hitAt(-1, 0, false, 1, 0), -1));
        s.bounds("20: hitAt: the YEAR", 0, 5000, -1, v -> x.hitAt(1, v, false, 1, 0));
        s.bounds("20: hitAt: n", 0, 1, -1, v -> x.hitAt(1, 0, false, v, 0));
        s.bounds("20: hitAt: i", 0, 2, -1, v -> x.hitAt(1, 0, false, 1, v));
    }
}
