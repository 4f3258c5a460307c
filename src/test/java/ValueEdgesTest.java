/** Terms: VARS, 32 bits that wrap, division, CONDS; what is numbered, and NEAR, SPANS, HILLS as they are told. */
final class ValueEdgesTest {
    /** Of 32 bits the least. */
    private static final String LEAST = "4096*4096*128";

    public static void main(String[] args) {
        Sentences s = new Sentences();
        wrapping(s);
        dividing(s);
        byZeroInSky(s);
        byZeroInCond(s);
        vars(s);
        precedence(s);
        numbering(s);
        near(s);
        s.end();
    }

    /** Of the LINE from a to b, which is meant: gap 30, far 50, stones 1, back 0, old 10, DEGREE 36. */
    private static void cond(Sentences s, String sentence, String cond, boolean due) {
        s.holds(sentence + ": " + cond, c -> {
            SkyStones x = Check.told("stone a 10 20 10;hole b 50 70 40;door a b;count if " + cond + ";");
            c.due(cond, x.line(1, 7, 0), due ? 1 : 0);
        });
    }

    private static void sky(Sentences s, String sentence, String e, int year, int due) {
        s.holds(sentence + ": " + e + " in " + year, c -> {
            SkyStones x = Check.told("hill 0 359 5;sky p=" + e + ";");
            c.due(e, x.rise(0, year), due);
        });
    }

    private static void wrapping(Sentences s) {
        cond(s, "* wraps to the least", LEAST + "<0", true);
        cond(s, "* wraps to 0", "4096*16*4096*16==0", true);
        cond(s, "+ wraps", LEAST + "-1+1==" + LEAST, true);
        cond(s, "- wraps to the most", "0<" + LEAST + "-1", true);
        cond(s, "0 less the least is the least", "0-" + LEAST + "==" + LEAST, true);
        cond(s, "the least by -1 is the least", LEAST + "/(0-1)==" + LEAST, true);
        cond(s, "< is not by a difference that wraps", LEAST + "<1", true);
        cond(s, "< is not by a difference that wraps", LEAST + "-1<" + LEAST, false);
        cond(s, "<= is not by a difference that wraps", LEAST + "<=" + LEAST + "-1", true);
        cond(s, "<= of the most and the least", LEAST + "-1<=" + LEAST, false);
        cond(s, "64 bits are not kept", "9999*9999*9999<0", 9999 * 9999 * 9999 < 0);
        cond(s, "it wraps ahead of /", LEAST + "*2/2==0", true);
        sky(s, "the rest of what is below 0", "0-1", 0, 359);
        sky(s, "the rest of -360", "0-360", 0, 0);
        sky(s, "the rest of -361", "0-361", 0, 359);
        sky(s, "the rest of 359", "359", 0, 359);
        sky(s, "the rest of 360", "360", 0, 0);
        sky(s, "the rest of the least", LEAST, 0, Math.floorMod(Integer.MIN_VALUE, 360));
        sky(s, "the rest of the most", LEAST + "-1", 0, Math.floorMod(Integer.MAX_VALUE, 360));
    }

    private static void dividing(Sentences s) {
        cond(s, "rounded towards 0", "7/2==3", true);
        cond(s, "rounded towards 0, below it", "(0-7)/2==0-3", true);
        cond(s, "rounded towards 0, by what is below it", "7/(0-2)==0-3", true);
        cond(s, "rounded towards 0, both below", "(0-7)/(0-2)==3", true);
        cond(s, "rounded towards 0, to 0", "(0-1)/2==0", true);
        cond(s, "0 by something", "0/7==0", true);
        cond(s, "by 1", "9999/1==9999", true);
        cond(s, "from the left", "100/7/2==7", true);
        cond(s, "as it stands, * and /", "7/2*2==6", true);
    }

    private static void byZeroInSky(Sentences s) {
        sky(s, "an E that divides by 0 is 0", "1/0", 0, 0);
        sky(s, "0 by 0", "0/0", 0, 0);
        sky(s, "is 0 as a whole, ahead of it", "7+1/0", 0, 0);
        sky(s, "is 0 as a whole, behind it", "1/0+7", 0, 0);
        sky(s, "is 0 as a whole, times it", "7+0*(1/0)", 0, 0);
        sky(s, "anywhere in it: the innermost of six", "7+((((((1/0))))))", 0, 0);
        sky(s, "anywhere in it: what divides it", "7+1/(1/0)", 0, 0);
        sky(s, "anywhere in it: by what is rounded to 0", "7+1/(1/2)", 0, 0);
        sky(s, "anywhere in it: by what wraps to 0", "7+1/(4096*16*4096*16)", 0, 0);
        sky(s, "by a VAR that is 0 in a sky's E", "7+1/gap", 0, 0);
        sky(s, "in that YEAR alone", "7+1/(year-5)", 5, 0);
        sky(s, "not in another one", "7+1/(year-5)", 6, 8);
        s.holds("with height 0 alone: the first DEGREE is 0", c -> {
            SkyStones x = Check.told("hill 0 0 5;hill 90 90 7;sky p=90+100/height;");
            c.due("rise", x.rise(0, 0), 110);
        });
        s.holds("with the HEIGHT alone: THE DEGREE is 0", c -> {
            SkyStones x = Check.told("hill 90 90 5;sky p=90+7/(height-5);");
            c.due("89: no HILL there", x.rise(0, 0), 89);
            SkyStones y = Check.told("hill 89 89 5;sky p=90+7/(height-5);");
            c.due("rise", y.rise(0, 0), 0);
        });
        s.holds("another PLACE's E is not broken by it", c -> {
            SkyStones x = Check.told("sky p=1/0;sky q=7;");
            c.due("p", x.rise(0, 0), 0);
            c.due("q", x.rise(1, 0), 7);
        });
    }

    private static void byZeroInCond(Sentences s) {
        for (String sign : new String[] {"==", "!=", "<", "<="}) {
            cond(s, "a LIT with a division by 0 does not hold, the first E", "1/0" + sign + "0", false);
            cond(s, "a LIT with a division by 0 does not hold, the second E", "0" + sign + "1/0", false);
            cond(s, "a LIT with a division by 0 does not hold, both", "1/0" + sign + "1/0", false);
            cond(s, "its not does", "not 1/0" + sign + "0", true);
            cond(s, "its not's not does not", "not not 1/0" + sign + "0", false);
            cond(s, "three nots", "not not not 0" + sign + "1/0", true);
        }
        cond(s, "anywhere in it", "1+2*((((((1/0))))))==1", false);
        cond(s, "the next LIT is another one", "1/0==0 or 1==1", true);
        cond(s, "the LIT ahead is another one", "1==1 or 1/0==0", true);
        cond(s, "an and with it", "1==1 and 1/0==0", false);
        cond(s, "an and with its not", "1==1 and not 1/0==0 and 2==2", true);
        cond(s, "by a VAR", "1/(gap-30)==0 or far==1", false);
        cond(s, "by a VAR that is 0 here: year", "not 1/year==0", true);
        cond(s, "by a VAR that is 0 here: height", "not 1/height==0", true);
        s.holds("a RULE is not broken by a PLACE's E", c -> {
            SkyStones x = Check.told("stone a 1 1 1;stone b 1 2 1;sky p=1/0;count if 1==1;");
            c.due("COUNTS", x.line(1, 7, 0), 1);
        });
        s.holds("another RULE is not broken by it", c -> {
            SkyStones x = Check.told("stone a 1 1 1;stone b 1 2 1;count if 1/0==1;count if 1==1;");
            c.due("COUNTS", x.line(1, 7, 0), 1);
            c.due("of the first", x.story(0, 0, 0, 0, 0), 0);
            c.due("of the second", x.story(1, 0, 0, 0, 0), 2);
        });
    }

    private static void vars(Sentences s) {
        String[] vars = {"gap", "far", "stones", "meant", "back", "old", "degree"};
        int[] due = {30, 50, 1, 1, 0, 10, 36};
        for (int i = 0; i < vars.length; i++) {
            cond(s, "a VAR of a LINE", vars[i] + "==" + due[i], true);
            sky(s, "elsewhere it is 0", "7+" + vars[i], 9, 7);
        }
        cond(s, "year is 0 in a COND", "year==0", true);
        cond(s, "height is 0 in a COND", "height==0", true);
        sky(s, "year in a sky's E", "year", 0, 0);
        sky(s, "year in a sky's E, the last one", "year/100", 5000, 50);
        sky(s, "height in a sky's E", "height", 0, 5);
        s.holds("year is 0 in a COND, whatever YEAR is asked for", c -> {
            SkyStones x = Check.told("stone a 0 0 0;stone b 0 9 0;count if year==0;sky p=year*360;");
            c.due("HITS", x.hits(1, 4999, 0, false, 0), 1);
        });
        s.holds("height is 0 in a COND, though a HILL is there", c -> {
            SkyStones x = Check.told("stone a 0 0 0;stone b 0 9 0;count if height==0;hill 0 359 9;");
            c.due("COUNTS", x.line(1, 7, 0), 1);
        });
        s.holds("VARS of one LINE are not those of another one", c -> {
            SkyStones x = Check.told("stone a 0 0 5;hole b 0 9 9;stone c 0 20 50;door a c;count if meant==1;");
            c.due("a c", x.line(2, 7, 0), 1);
            c.due("c a", x.line(28, 7, 0), 0);
            c.due("a b", x.line(1, 7, 0), 0);
        });
    }

    private static void precedence(Sentences s) {
        cond(s, "* ahead of +", "1+2*3==7", true);
        cond(s, "/ ahead of -", "9-6/3==7", true);
        cond(s, "( ahead of *", "(1+2)*3==9", true);
        cond(s, "- from the left", "9-3-2==4", true);
        cond(s, "- and +, from the left", "9-3+2==8", true);
        cond(s, "and ahead of or", "1==1 or 1==1 and 1==2", true);
        cond(s, "and ahead of or, the other way", "1==2 and 1==1 or 1==1", true);
        cond(s, "not ahead of and", "not 1==2 and 1==2", false);
        cond(s, "not ahead of or", "not 1==1 or 1==1", true);
        for (String sign : new String[] {"==", "!=", "<", "<="}) {
            cond(s, "less than it", "29" + sign + "gap", !sign.equals("=="));
            cond(s, "alike", "30" + sign + "gap", sign.endsWith("=") && !sign.equals("!="));
            cond(s, "more than it", "31" + sign + "gap", sign.equals("!="));
            cond(s, "below 0 and above", "0-1" + sign + "1", !sign.equals("=="));
        }
        cond(s, "not of what holds", "not 1==1", false);
        cond(s, "not of what holds, of greater ones", "not 5==5", false);
        cond(s, "not of what does not hold", "not 1==2", true);
        cond(s, "not not of what holds", "not not 1==1", true);
        cond(s, "not not not of what holds", "not not not 1==1", false);
        cond(s, "not of the second LIT", "1==1 and not 1==1", false);
        cond(s, "not of the second LIT, the first does not hold", "1==2 or not 1==2", true);
        cond(s, "not is of its LIT alone", "not 1==1 and 1==1 or 1==2", false);
        for (String three : new String[] {"1==1 or 1==2 or 1==2", "1==2 or 1==1 or 1==2", "1==2 or 1==2 or 1==1"}) {
            cond(s, "one of three", three, true);
            cond(s, "not all of three", three.replace("or", "and"), false);
        }
        cond(s, "all of three", "1==1 and 2==2 and 3==3", true);
        cond(s, "none of three", "1==2 or 2==3 or 3==4", false);
        cond(s, "six LITS", "1==2 or 1==1 and 1==2 or 1==1 and 1==1 or 1==2", true);
        cond(s, "six LITS of which none", "1==2 or 1==1 and 1==2 or 1==2 and 1==1 or 1==2", false);
        cond(s, "< of alike ones", "gap<30", false);
        cond(s, "<= of alike ones", "gap<=30", true);
        cond(s, "< of the next", "gap<31", true);
        cond(s, "<= of the one below", "gap<=29", false);
    }

    private static void numbering(Sentences s) {
        s.holds("THINGS are numbered from 0 on as they stand, stones and holes alike", c -> {
            SkyStones x = Check.told("hole c 3 0 0;near 1;stone a 1 0 0;sky p=1;hole b 2 0 0;");
            int[] east = {3, 1, 2};
            for (int i = 0; i < 3; i++) {
                c.due("thing " + i, x.thing(i, 0, 0), east[i]);
                c.due("a stone " + i, x.thing(i, 3, 0), i == 1 ? 1 : 0);
            }
        });
        s.holds("PLACES are numbered from 0 on as they stand, 5 of them", c -> {
            SkyStones x = Check.told("sky e=50;sky d=40;near 1;sky c=30;sky b=20;sky a=10;");
            for (int i = 0; i < 5; i++) {
                c.due("rise " + i, x.rise(i, 0), 50 - 10 * i);
            }
        });
        s.holds("RULES are numbered from 0 on as they stand, 6 of them", c -> {
            StringBuilder text = new StringBuilder("stone a 0 0 0;stone b 0 1 1;stone c 0 3 3;");
            int[] gap = {2, 1, 9, 3, 0, 2};
            int[] due = {2, 2, 0, 2, 0, 2};
            for (int g : gap) {
                text.append("count if gap==").append(g).append(";near 1;");
            }
            SkyStones x = Check.told(text.toString());
            for (int i = 0; i < 6; i++) {
                c.due("rule " + i, x.story(i, 0, 0, 0, 0), due[i]);
            }
        });
        s.holds("a DOOR is from the first THING to the second one", c -> {
            SkyStones x = Check.told("stone a 0 0 0;stone b 0 1 1;door b a;");
            c.due("b a", x.line(14, 4, 0), 1);
            c.due("a b", x.line(1, 4, 0), 0);
        });
        s.holds("DOORS of the 14th THING", c -> {
            StringBuilder text = new StringBuilder();
            for (int i = 0; i < 14; i++) {
                text.append("hole t").append((char) ('a' + i)).append(" 0 ").append(i).append(" 0;");
            }
            SkyStones x = Check.told(text + "door ta tn;door tn tm;");
            c.due("first to last", x.line(13, 4, 0), 1);
            c.due("last to the one ahead", x.line(14 * 13 + 12, 4, 0), 1);
            c.due("the other way: back", x.line(14 * 12 + 13, 5, 0), 1);
        });
    }

    private static void near(Sentences s) {
        s.holds("NEAR is 2 if not told", c -> c.due("NEAR", Check.told("sky p=1;").count(5), 2));
        s.holds("NEAR 0 is told", c -> c.due("NEAR", Check.told("near 0;").count(5), 0));
        s.holds("of several the last one told", c -> c.due("NEAR", Check.told("near 7;near 3;near 5;").count(5), 5));
        s.holds("of several the last one told, though it is less", c -> c.due("NEAR", Check.told("near 7;sky p=1;near 0;").count(5), 0));
        s.holds("NEAR of the last one is that of the whole text", c -> {
            SkyStones x = Check.told("stone a 0 0 0;stone b 0 9 0;near 0;sky p=3;near 3;");
            c.due("hit", x.hit(1, 0, 0, 0), 2);
        });
        s.holds("SPAN is 0 if not told", c -> {
            SkyStones x = Check.told("stone a 0 0 0;stone b 0 9 0;sky p span 9=1;sky q=2;sky r=3;");
            c.due("at NEAR: SURELY", x.hit(1, 1, 0, 0), 2);
            c.due("beyond", x.hit(1, 2, 0, 0), 0);
        });
        s.holds("a SPAN is its own PLACE's", c -> {
            SkyStones x = Check.told("stone a 0 0 0;stone b 0 9 0;near 0;sky p span 3=4;sky q span 4=4;");
            c.due("p", x.hit(1, 0, 0, 0), 0);
            c.due("q", x.hit(1, 1, 0, 0), 1);
        });
    }
}
