/** III, TURNED, AS MANY, ALONE, TOLD AFTER, PRICE, and promises 21 to 25: each sentence that names an edge. */
final class TurnEdgesTest {
    /** The LINES at 0 and at 180. */
    private static final String UP = "stone a 0 0 0;stone b 0 9 0;";
    private static final String ONE = UP + "count if degree==0;";
    private static final String EVERYWHERE = "near 20;sky p span 20=0;sky q span 20=72;sky r span 20=144;"
        + "sky s span 20=216;sky t span 20=288;";

    public static void main(String[] args) {
        Sentences s = new Sentences();
        many(s);
        allHits(s);
        alone(s);
        chosen(s);
        striking(s);
        strikingOf(s);
        price(s);
        s.end();
    }

    private static void many(Sentences s, String sentence, String text, int set, int due) {
        s.holds("21: " + sentence + ": " + text, c -> c.due("many", Check.told(text).many(set, 0, 0), due));
    }

    private static void many(Sentences s) {
        many(s, "all 360 if nothing HITS", UP + "sky p=90;", 1, 360);
        many(s, "all 360 of no PLACES", UP + "sky p=0;", 0, 360);
        many(s, "all 360 without LINES", "stone a 1 1 1;sky p=0;", 1, 360);
        many(s, "all 360 if none COUNTS", UP + "count if 1==2;sky p=0;", 1, 360);
        many(s, "the one of 0 alone", ONE + "near 0;sky p=0;", 1, 1);
        many(s, "no fewer: as many too, both ways", UP + "near 0;sky p=0;", 1, 2);
        many(s, "no fewer: more too", UP + "near 0;sky p=0;sky q=90;sky r=270;", 7, 4);
        many(s, "no fewer: not those with fewer", UP + "near 0;sky p=90;sky q=270;sky r=0;sky s=180;sky t=45;", 31, 4);
        many(s, "MAYBE: NEAR and SPAN", ONE + "near 3;sky p span 2=5;", 1, 11);
        many(s, "MAYBE: NEAR 20 and SPAN 20", ONE + "near 20;sky p span 20=40;", 1, 81);
        many(s, "MAYBE: one beyond", ONE + "near 20;sky p span 20=41;", 1, 360);
        many(s, "360 is 0: PLACES on both sides of 0", ONE + "near 1;sky p=359;sky q=1;", 3, 5);
        many(s, "what COUNTS stays", ONE + "near 0;sky p=0;sky q=180;", 3, 2);
        many(s, "all ever HIT", ONE + EVERYWHERE, 31, 360);
        s.holds("21: as KNOWN by n", c -> {
            SkyStones x = Check.told(ONE + "near 0;sky p=0;");
            x.gone(0);
            c.due("by 0", x.many(1, 0, 0), 1);
            c.due("by 1", x.many(1, 0, 1), 360);
        });
        SkyStones x = Check.told(UP + "sky p=0;sky q=year;");
        x.move(0, 1, 1);
        s.bounds("21: many: the set", 0, 3, -1, v -> x.many(v, 0, 1));
        s.bounds("21: many: the YEAR", 0, 5000, -1, v -> x.many(1, v, 1));
        s.bounds("21: many: n", 0, 1, -1, v -> x.many(1, 0, v));
    }

    private static void allHits(Sentences s, String sentence, String text, int set, int due) {
        s.holds("22: " + sentence + ": " + text, c -> c.due("allHits", Check.told(text).allHits(set, 0, 0), due));
    }

    private static void allHits(Sentences s) {
        allHits(s, "0 of no PLACES", UP + "sky p=0;", 0, 0);
        allHits(s, "0 without LINES", "sky p=0;", 1, 0);
        allHits(s, "0 if none COUNTS", UP + "count if 1==2;sky p=0;", 1, 0);
        allHits(s, "one LINE, one DEGREE", ONE + "near 0;sky p=77;", 1, 1);
        allHits(s, "each LINE HITS as often as DEGREES are near", UP + "near 3;sky p span 2=77;", 1, 22);
        allHits(s, "two PLACES apart", ONE + "near 0;sky p=0;sky q=1;", 3, 2);
        allHits(s, "two PLACES that share what is near", ONE + "near 1;sky p=359;sky q=0;", 3, 4);
        allHits(s, "two PLACES alike", ONE + "near 1;sky p=5;sky q=5;", 3, 3);
        allHits(s, "all ever HIT", UP + EVERYWHERE, 31, 720);
        SkyStones x = Check.told(UP + "sky p=0;sky q=year;");
        x.move(0, 1, 1);
        s.bounds("22: allHits: the set", 0, 3, -1, v -> x.allHits(v, 0, 1));
        s.bounds("22: allHits: the YEAR", 0, 5000, -1, v -> x.allHits(1, v, 1));
        s.bounds("22: allHits: n", 0, 1, -1, v -> x.allHits(1, 0, v));
    }

    private static String holes(int n) {
        StringBuilder all = new StringBuilder();
        for (int i = 0; i < n; i++) {
            all.append("hole t").append((char) ('a' + i)).append(' ').append(i * i).append(' ').append(7 * i).append(" 0;");
        }
        return all.toString();
    }

    /** Of 14 holes with told ages those HIT one another that a RULE chooses. */
    private static void chosen(Sentences s, String sentence, String rule, int due, int... ages) {
        s.holds("23: " + sentence + ": " + rule, c -> {
            StringBuilder all = new StringBuilder();
            for (int i = 0; i < ages.length; i++) {
                all.append("hole t").append((char) ('a' + i)).append(' ').append(i).append(' ').append(7 * i);
                all.append(' ').append(ages[i]).append(';');
            }
            SkyStones x = Check.told(all + EVERYWHERE + "count if " + rule + ";");
            c.due("alone", x.alone(31, 0, 0), due);
        });
    }

    private static void chosen(Sentences s) {
        chosen(s, "the last two alone", "gap==1", 1, 0, 10, 20, 30, 40, 50, 60, 70, 80, 90, 100, 110, 120, 121);
        chosen(s, "the first and the last alone", "gap==1", 1, 0, 10, 20, 30, 40, 50, 60, 70, 80, 90, 100, 110, 120, 1);
        chosen(s, "two pairs within one another", "gap==1", 2, 0, 10, 20, 30, 40, 50, 60, 70, 80, 41, 100, 11, 120, 130);
        chosen(s, "three pairs that cross", "gap==1", 3, 0, 10, 20, 30, 40, 50, 60, 70, 80, 90, 100, 51, 41, 31);
        chosen(s, "a row of three", "gap==1", 1, 0, 10, 20, 31, 40, 50, 32, 70, 80, 90, 100, 110, 33, 130);
        chosen(s, "a row of four", "gap==1", 2, 0, 34, 20, 31, 40, 50, 32, 70, 80, 90, 100, 110, 33, 130);
        chosen(s, "upwards alone", "gap==1 and degree<180", 2, 0, 34, 20, 31, 40, 50, 32, 70, 80, 90, 100, 110, 33, 130);
        chosen(s, "downwards alone", "gap==1 and not degree<180", 2, 0, 34, 20, 31, 40, 50, 32, 70, 80, 90, 100, 110, 33, 130);
        chosen(s, "a row of fourteen", "gap==1", 7, 0, 1, 2, 3, 4, 5, 6, 7, 8, 9, 10, 11, 12, 13);
        chosen(s, "a row of thirteen", "gap==1", 6, 1, 2, 3, 4, 5, 6, 7, 8, 9, 10, 11, 12, 13, 99);
        chosen(s, "four rings of three", "gap<3", 4, 10, 20, 30, 40, 11, 21, 31, 41, 12, 22, 32, 42, 70, 80);
        chosen(s, "a star of three THINGS with others between", "gap==1", 1, 0, 10, 20, 30, 41, 50, 60, 40, 80, 40, 100, 110, 40, 130);
        chosen(s, "two pairs and two stars with others between", "gap==1", 4,
            0, 1, 10, 11, 400, 100, 500, 600, 700, 201, 200, 201, 101, 101);
        chosen(s, "two stars", "gap==5 or gap==25", 2, 30, 35, 35, 25, 25, 35, 60, 55, 65, 35, 65, 25, 65, 55);
        s.holds("23: whatever was asked for ahead", c -> {
            SkyStones x = Check.told(holes(14) + EVERYWHERE);
            for (int set = 31; set >= 0; set--) {
                c.due("all", x.alone(31, 0, 0), 7);
                c.due("set " + set, x.alone(set, 0, 0), Check.told(holes(14) + EVERYWHERE).alone(set, 0, 0));
            }
            c.due("the empty set", x.alone(0, 0, 0), 0);
        });
    }

    private static void alone(Sentences s) {
        s.holds("23: 0 if nothing HITS", c -> c.due("alone", Check.told(UP + "sky p=90;").alone(1, 0, 0), 0));
        s.holds("23: 0 of no PLACES, of nothing told", c -> {
            c.due("the empty set", Check.told(UP + "sky p=0;").alone(0, 0, 0), 0);
            c.due("nothing told", new SkyStones().alone(0, 0, 0), 0);
        });
        s.holds("23: both ways of two THINGS have both THINGS alike", c -> {
            SkyStones x = Check.told(UP + "sky p=0;sky q=180;");
            c.due("hits", x.hits(3, 0, 0, false, 0), 2);
            c.due("alone", x.alone(3, 0, 0), 1);
        });
        s.holds("23: one way alone is enough", c -> {
            c.due("b a", Check.told(UP + "near 0;sky p=180;").alone(1, 0, 0), 1);
            c.due("a b", Check.told(UP + "near 0;sky p=0;").alone(1, 0, 0), 1);
        });
        s.holds("23: (MAYBE)", c -> c.due("alone", Check.told(UP + "near 0;sky p span 3=3;").alone(1, 0, 0), 1));
        s.holds("23: three THINGS: 1; four: 2; five: 2", c -> {
            for (int n = 2; n <= 14; n++) {
                c.due("of " + n, Check.told(holes(n) + EVERYWHERE).alone(31, 0, 0), n / 2);
            }
        });
        s.holds("23: the greatest number, not the first LINES that fit", c -> {
            // In a row of four those at both ends are 2, the one in the middle is 1.
            SkyStones x = Check.told("stone b 0 10 0;stone c 0 30 0;stone a 0 0 0;stone d 0 70 0;sky p=0;"
                + "count if far==20 or far==10 or far==40;");
            c.due("alone", x.alone(1, 0, 0), 2);
        });
        s.holds("23: of a ring of five THINGS 2", c -> {
            SkyStones x = Check.told("stone a 0 0 1;stone b 0 9 2;stone c 9 9 4;stone d 20 9 8;stone e 9 0 16;" + EVERYWHERE
                + "count if gap==1;count if gap==2;count if gap==4;count if gap==8;count if gap==15;");
            c.due("hits", x.hits(31, 0, 0, false, 0), 10);
            c.due("alone", x.alone(31, 0, 0), 2);
        });
        s.holds("23: it COUNTS", c -> {
            SkyStones x = Check.told(holes(14) + EVERYWHERE + "count if 1==2;");
            c.due("alone", x.alone(31, 0, 0), 0);
        });
        s.holds("23: as KNOWN by n: thirteen of fourteen", c -> {
            SkyStones x = Check.told(holes(14) + EVERYWHERE);
            x.gone(0);
            c.due("by 0", x.alone(31, 0, 0), 7);
            c.due("by 1", x.alone(31, 0, 1), 6);
        });
        SkyStones x = Check.told(UP + "sky p=0;sky q=year;");
        x.move(0, 1, 1);
        s.bounds("23: alone: the set", 0, 3, -1, v -> x.alone(v, 0, 1));
        s.bounds("23: alone: the YEAR", 0, 5000, -1, v -> x.alone(1, v, 1));
        s.bounds("23: alone: n", 0, 1, -1, v -> x.alone(1, 0, v));
    }

    private static void striking(Sentences s, String sentence, String text, int t, int due) {
        s.holds("24: " + sentence + ": " + text + " t " + t, c -> c.due("striking", Check.told(text).striking(0, t, 0), due));
    }

    /** Of one LINE, at 0: a turn that is t off the PLACE needs NEAR t, by which 2 * t + 1 turns HIT. */
    private static void striking(Sentences s) {
        striking(s, "360 if there are no PLACES", UP, 0, 360);
        striking(s, "360 if there are no PLACES and no LINES", "", 359, 360);
        striking(s, "360 without LINES", "sky p=0;", 0, 360);
        striking(s, "360 if none COUNTS", UP + "count if 1==2;sky p=0;", 0, 360);
        striking(s, "NEAR 0", ONE + "sky p=0;", 0, 1);
        striking(s, "NEAR 1, upwards", ONE + "sky p=0;", 1, 3);
        striking(s, "NEAR 1, beyond 0", ONE + "sky p=0;", 359, 3);
        striking(s, "NEAR 4, upwards", ONE + "sky p=0;", 4, 9);
        striking(s, "NEAR 4, beyond 0", ONE + "sky p=0;", 356, 9);
        striking(s, "not NEAR 5", ONE + "sky p=0;", 5, 360);
        striking(s, "not NEAR 5, beyond 0", ONE + "sky p=0;", 355, 360);
        striking(s, "NEAR that is told is not asked, 20", ONE + "near 20;sky p=0;", 5, 360);
        striking(s, "NEAR that is told is not asked, 0", ONE + "near 0;sky p=0;", 4, 9);
        striking(s, "MAYBE: with its SPAN, not NEAR -1", ONE + "sky p span 3=0;", 0, 7);
        striking(s, "MAYBE: with its SPAN, NEAR 0", ONE + "sky p span 3=0;", 3, 7);
        striking(s, "MAYBE: with its SPAN, NEAR 4", ONE + "sky p span 3=0;", 7, 15);
        striking(s, "MAYBE: with its SPAN, not NEAR 5", ONE + "sky p span 3=0;", 8, 360);
        striking(s, "the last turn", ONE + "sky p=359;", 359, 1);
        striking(s, "both ways", UP + "sky p=0;", 180, 2);
    }

    private static void strikingOf(Sentences s) {
        striking(s, "any set: one of two PLACES", ONE + "sky p=0;sky q=90;", 0, 1);
        striking(s, "any set: the other one of two", ONE + "sky p=0;sky q=90;", 90, 1);
        striking(s, "any set: the last one of five",
            ONE + "sky p=10;sky q=20;sky r=30;sky s=40;sky t=90;", 90, 1);
        // Only both PLACES together are HIT twice, and that in two turns of 360.
        striking(s, "any set: two together", UP + "sky p=0;sky q=180;", 0, 2);
        striking(s, "any set: two together, of LINES at 0 and 90 one way", "stone a 0 0 0;stone b 0 9 0;stone c 9 0 0;"
            + "count if degree==0;count if degree==90;sky p=0;sky q=90;", 0, 1);
        striking(s, "any set but none: none would be 360", ONE + "sky p=0;", 100, 360);
        s.holds("24: in a YEAR, as KNOWN by n", c -> {
            SkyStones x = Check.told(ONE + "sky p=year;");
            x.gone(0);
            c.due("in 90", x.striking(90, 90, 0), 1);
            c.due("in 90, the turn of 0", x.striking(90, 0, 0), 360);
            c.due("in 5000", x.striking(5000, 5000 % 360, 0), 1);
            c.due("by 1", x.striking(90, 90, 1), 360);
        });
        SkyStones x = Check.told(UP + "sky p=0;sky q=year;");
        x.move(0, 1, 1);
        s.bounds("24: striking: the YEAR", 0, 5000, -1, v -> x.striking(v, 0, 1));
        s.bounds("24: striking: t", 0, 359, -1, v -> x.striking(0, v, 1));
        s.bounds("24: striking: n", 0, 1, -1, v -> x.striking(0, 0, v));
        SkyStones none = new SkyStones();
        s.bounds("24: striking without PLACES: the YEAR", 0, 5000, -1, v -> none.striking(v, 0, 0));
        s.bounds("24: striking without PLACES: t", 0, 359, -1, v -> none.striking(0, v, 0));
        s.bounds("24: striking without PLACES: n", 0, 0, -1, v -> none.striking(0, 0, v));
    }

    private static void price(Sentences s, String sentence, String text, int due) {
        s.holds("25: " + sentence + ": " + text, c -> c.due("price", Check.told(text).price(0, 0), due));
    }

    private static void price(Sentences s) {
        price(s, "all 360 if there are no PLACES", UP, 360);
        price(s, "all 360 without LINES", "sky p=0;", 360);
        price(s, "all 360 if nothing can be HIT", ONE + "sky p=5;", 360);
        price(s, "the one of 0 alone", ONE + "sky p=0;", 1);
        price(s, "as STRIKING too: both ways", UP + "sky p=0;", 2);
        price(s, "as STRIKING too: two PLACES", ONE + "sky p=0;sky q=100;", 2);
        price(s, "as STRIKING too: five PLACES", ONE + "sky p=0;sky q=100;sky r=200;sky s=300;sky t=50;", 5);
        price(s, "more STRIKING too: by 1", ONE + "sky p=1;", 3);
        price(s, "more STRIKING too: by 4, the last NEAR", ONE + "sky p=356;", 9);
        price(s, "NEAR that is told is not asked", ONE + "near 20;sky p=5;", 360);
        s.holds("25: in a YEAR, as KNOWN by n", c -> {
            SkyStones x = Check.told(ONE + "sky p=year;");
            x.gone(0);
            c.due("in 0", x.price(0, 0), 1);
            c.due("in 3", x.price(3, 0), 7);
            c.due("in 5000", x.price(5000, 0), 360);
            c.due("by 1", x.price(0, 1), 360);
        });
        SkyStones x = Check.told(UP + "sky p=0;sky q=year;");
        x.move(0, 1, 1);
        s.bounds("25: price: the YEAR", 0, 5000, -1, v -> x.price(v, 1));
        s.bounds("25: price: n", 0, 1, -1, v -> x.price(0, v));
    }
}
