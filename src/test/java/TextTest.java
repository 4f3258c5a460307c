/** Promise 4 and 5 by "Terms": TOKENS, the grammar, each FAULT and its place, Es and CONDS. */
final class TextTest {
    private static final String TEN = "stone aa 0 1 0;stone ab 0 2 0;stone ac 0 3 0;stone ad 0 4 0;stone ae 0 5 0;"
        + "hole af 0 6 0;hole ag 0 7 0;hole ah 0 8 0;hole ai 0 9 0;hole aj 1 0 0;";
    private static final String FOURTEEN = TEN + "hole ak 2 0 0;hole al 3 0 0;hole am 4 0 0;hole an 5 0 0;";

    public static void main(String[] args) {
        Check check = new Check();
        tokens(check);
        syntax(check);
        room(check);
        later(check);
        order(check);
        whatIsTold(check);
        expressions(check);
        conditions(check);
        check.end();
    }

    private static void tokens(Check check) {
        check.fault("", 0, -1);
        check.fault(" \t\r\n ", 0, -1);
        check.fault("stone\ta\r1\n2 3;", 0, -1);
        check.fault("stone a1 2 3;", 0, -1);
        check.fault("stone abcdefgh 1 2 3;", 0, -1);
        check.fault("stone abcdefghi 1 2 3;", 1, 6);
        check.fault("stonea 1 2 3;", 1, 0);
        check.fault("stone a 1 2 9999;", 0, -1);
        check.fault("stone a 1 2 10000;", 1, 12);
        check.fault("stone a 0001 2 3;", 0, -1);
        check.fault("stone a 00001 2 3;", 1, 8);
        check.fault("stone A 1 2 3;", 1, 6);
        check.fault("stone a_b 1 2 3;", 1, 7);
        check.fault("stone a 1 2 3\u000b;", 1, 13);
        check.fault("stone a 1 2 3\u0000;", 1, 13);
        check.fault("stone a 1 2 3\u00a0;", 1, 13);
        String[] words = {"stone", "hole", "door", "hill", "sky", "span", "near", "count", "if", "or", "and", "not",
            "year", "height", "gap", "far", "stones", "meant", "back", "old", "degree"};
        for (String word : words) {
            check.fault("hole " + word + " 1 2 3;", 1, 5);
            check.fault("hole " + word + "x 1 2 3;", 0, -1);
        }
        check.fault("sky p=1+2-3*4/5;count if 1==1 and 1!=2 or 1<2 and 1<=2;", 0, -1);
        check.fault("sky p==1;", 1, 5);
        check.fault("sky p= =1;", 1, 7);
        check.fault("count if 1<==1;", 1, 12);
        check.fault("count if 1===1;", 1, 12);
        check.fault("count if 1< =1;", 1, 12);
        check.fault("count if 1! =1;", 1, 10);
        check.fault("count if 1!1;", 1, 10);
        check.fault("count if 1>1;", 1, 10);
        check.fault("near 1.", 1, 6);
    }

    private static void syntax(Check check) {
        check.fault("stone", 1, 5);
        check.fault("stone  ", 1, 7);
        check.fault("stone a 1 2 3", 1, 13);
        check.fault("stone a 1 2 ;", 1, 12);
        check.fault("stone a 1 2 3 4;", 1, 14);
        check.fault("stone 1 2 3;", 1, 6);
        check.fault(";", 1, 0);
        check.fault("a", 1, 0);
        check.fault("near 1;;", 1, 7);
        check.fault("near a;", 1, 5);
        check.fault("near;", 1, 4);
        check.fault("door a 1;", 1, 7);
        check.fault("door a b c;", 1, 9);
        check.fault("hill 1 2;", 1, 8);
        check.fault("sky p span = 1;", 1, 11);
        check.fault("sky p span 1 span 2=1;", 1, 13);
        check.fault("sky span 1 = 1;", 1, 4);
        check.fault("sky p = ;", 1, 8);
        check.fault("sky p = a;", 1, 8);
        check.fault("sky p = -1;", 1, 8);
        check.fault("sky p = 1+;", 1, 10);
        check.fault("sky p = (1;", 1, 10);
        check.fault("sky p = 1);", 1, 9);
        check.fault("sky p = ();", 1, 9);
        check.fault("sky p = 1 2;", 1, 10);
        check.fault("sky p = not 1;", 1, 8);
        check.fault("sky p = 1 == 1;", 1, 10);
        check.fault("count 1==1;", 1, 6);
        check.fault("count if ;", 1, 9);
        check.fault("count if 1;", 1, 10);
        check.fault("count if not;", 1, 12);
        check.fault("count if 1==1==1;", 1, 13);
        check.fault("count if (1==1);", 1, 11);
        check.fault("count if 1==1 and;", 1, 17);
        check.fault("count if 1==1 or or 1==1;", 1, 17);
        check.fault("count if 1==1 not 1==1;", 1, 14);
        check.fault("count if not not 1==1;", 0, -1);
        check.fault("count if 1 + not 1 == 1;", 1, 13);
        check.fault("near 1; count if 1==1", 1, 21);
    }

    private static String times(String what, int n) {
        return what.repeat(n);
    }

    private static void room(Check check) {
        check.fault(FOURTEEN, 0, -1);
        int all = FOURTEEN.length();
        check.fault(FOURTEEN + "stone ao 6 0 0;", 2, all);
        check.fault(FOURTEEN + "hole", 2, all);
        check.fault(FOURTEEN + " stone ! ", 2, all + 1);
        check.fault(FOURTEEN + "near", 1, all + 4);
        String two = "stone a 1 2 3;stone b 1 3 3;";
        check.fault(two + times("door a b;", 8), 0, -1);
        check.fault(two + times("door a b;", 9), 2, two.length() + 72);
        check.fault(times("hill 1 2 3;", 12), 0, -1);
        check.fault(times("hill 1 2 3;", 13), 2, 132);
        String five = "sky p=1;sky q=1;sky r=1;sky s=1;sky t=1;";
        check.fault(five, 0, -1);
        check.fault(five + "sky u=1;", 2, 40);
        check.fault(times("count if 1<2;", 6), 0, -1);
        check.fault(times("count if 1<2;", 7), 2, 78);
        check.fault(times("near 1;", 20), 0, -1);
        check.fault("sky p=((((((1))))));", 0, -1);
        check.fault("sky p=(((((((1)))))));", 2, 12);
        check.fault("sky p=((((((1))))))+((((((1))))));", 0, -1);
        check.fault("sky p=(((((1+(1))))))*(((((1/((2)))))));", 2, 30);
        check.fault("count if ((((((1))))))==(((((((1)))))));", 2, 30);
        tokensInAll(check);
    }

    /** 130 times three TOKENS and twice five are 400. */
    private static void tokensInAll(Check check) {
        String most = times("near 1;", 130) + "sky p=1;sky q=1;";
        int all = most.length();
        check.fault(most, 0, -1);
        check.fault(most + "   ", 0, -1);
        check.fault(most + "near 1;", 2, all);
        check.fault(most + " near", 2, all + 1);
        check.fault(most + "!", 1, all);
        check.fault(most + ";", 1, all);
        check.fault(most + "stone stone", 2, all);
        String less = times("near 1;", 131) + "sky p=1";
        check.fault(less + ";near", 1, less.length() + 5);
        check.fault(less + ";near ;", 1, less.length() + 6);
        check.fault(less + ";near 7", 1, less.length() + 7);
        check.fault(less + ";near 7;", 2, less.length() + 7);
        check.fault(less + ";near 7 8", 1, less.length() + 8);
        check.fault(less + "+1+1;", 2, less.length() + 3);
        check.fault(less + "+1;", 0, -1);
        check.fault("count if " + times("not ", 394) + "1==1;", 0, -1);
        check.fault("count if " + times("not ", 395) + "1==1;", 2, 9 + 4 * 395 + 4);
        check.fault("count if " + times("not ", 396) + "1==1;", 2, 9 + 4 * 396 + 3);
        check.fault("count if " + times("not ", 398) + "1==1;", 2, 9 + 4 * 398);
        check.fault("count if " + times("not ", 399) + "1==1;", 2, 9 + 4 * 398);
    }

    private static void later(Check check) {
        check.fault("stone a 1 2 3;hole a 2 3 4;", 3, 19);
        check.fault("sky a=1;hole a 2 3 4;", 3, 13);
        check.fault("stone a 1 2 3;sky a=1;", 3, 18);
        check.fault("sky a=1;sky a=1;", 3, 12);
        check.fault("stone a 1 2 3;hole b 1 2 4;", 3, 23);
        check.fault("stone a 1 2 3;hole b 2 1 3;", 0, -1);
        check.fault("stone a 1 2 3;hole b 01 0002 4;", 3, 24);
        check.fault("door a b;", 4, 5);
        check.fault("stone a 1 2 3;door a b;stone b 3 4 5;", 4, 21);
        check.fault("stone a 1 2 3;door b a;", 4, 19);
        check.fault("stone a 1 2 3;sky b=1;door a b;", 4, 29);
        check.fault("stone a 1 2 3;door a a;", 5, 21);
        check.fault("door a a;", 4, 5);
        check.fault("stone a 999 999 9999;", 0, -1);
        check.fault("stone a 1000 2 3;", 5, 8);
        check.fault("stone a 1 1000 3;", 5, 10);
        check.fault("hole a 9999 9999 3;", 5, 7);
        check.fault("hill 359 359 20;", 0, -1);
        check.fault("hill 360 2 3;", 5, 5);
        check.fault("hill 1 360 3;", 5, 7);
        check.fault("hill 1 2 21;", 5, 9);
        check.fault("sky p span 20=1;", 0, -1);
        check.fault("sky p span 21=1;", 5, 11);
        check.fault("near 20;", 0, -1);
        check.fault("near 21;", 5, 5);
        check.fault("near 21;near 3;", 5, 5);
    }

    private static void order(Check check) {
        check.fault("near 21;stone", 1, 13);
        check.fault("door a b;" + times("hill 1 2 3;", 13), 2, 9 + 132);
        check.fault("near 21;door a b;stone a 1 2 3;stone a 1 2 3;", 5, 5);
        check.fault("door a b;near 21;", 4, 5);
        check.fault("stone a 1 2 3;stone a 1 2 3;near 21;", 3, 20);
        check.fault("sky a=1;stone a 1000 1000 3;", 3, 14);
    }

    private static void whatIsTold(Check check) {
        SkyStones x = Check.told(TEN + "door aa ab;door ab aa;hill 1 2 3;sky p=1;sky q=2;sky r=3;near 4;near 0;"
            + "count if 1<2;count if 1<2;count if 1<2;count if 1<2;");
        int[] due = {10, 2, 1, 3, 4, 0, 0, 0, 0, 0};
        for (int what = 0; what < due.length; what++) {
            check.due("count " + what, x.count(what), due[what]);
        }
        check.due("a stone", x.thing(4, 3, 0), 1);
        check.due("a hole", x.thing(5, 3, 0), 0);
        check.due("east", x.thing(9, 0, 0), 1);
        check.due("north", x.thing(4, 1, 0), 5);
        check.due("a text in place of another", Check.tell(x, "near 3;stone a 1 2 3;"), 0);
        int[] less = {1, 0, 0, 0, 0, 3, 0, 0, 0, 0};
        for (int what = 0; what < less.length; what++) {
            check.due("count then " + what, x.count(what), less[what]);
        }
    }

    private static void e(Check check, String e, int year, int due) {
        SkyStones x = Check.told("hill 0 359 5;sky p=" + e + ";");
        check.due(e + " in " + year, x.rise(0, year), due);
    }

    private static void expressions(Check check) {
        e(check, "7", 0, 7);
        e(check, "1+2*3", 0, 7);
        e(check, "(1+2)*3", 0, 9);
        e(check, "9-3-2", 0, 4);
        e(check, "9-(3-2)", 0, 8);
        e(check, "100/7/2", 0, 7);
        e(check, "100/(7/2)", 0, 33);
        e(check, "7/2*2", 0, 6);
        e(check, "2*7/2", 0, 7);
        e(check, "(0-7)/2", 0, 357);
        e(check, "7/(0-2)", 0, 357);
        e(check, "0-1", 0, 359);
        e(check, "0-720", 0, 0);
        e(check, "360", 0, 0);
        e(check, "9999", 0, 9999 % 360);
        e(check, "year", 4321, 4321 % 360);
        e(check, "height", 0, 5);
        e(check, "year/100-height*2", 5000, 40);
        e(check, "gap+far+stones+meant+back+old+degree+3", 77, 3);
        e(check, "1/0", 0, 0);
        e(check, "7+1/0", 0, 0);
        e(check, "7+(3*(1/(year-5)))", 5, 0);
        e(check, "7+(3*(1/(year-5)))", 6, 10);
        e(check, "7+0*(1/(1/2))", 0, 0);
        e(check, "0/7+9", 0, 9);
        e(check, "9999*9999*9999", 0, Math.floorMod(9999 * 9999 * 9999, 360));
        e(check, "9999*9999*99+year", 5000, Math.floorMod(9999 * 9999 * 99 + 5000, 360));
        e(check, "(0-4096*4096*128)/(0-1)", 0, Math.floorMod(Integer.MIN_VALUE, 360));
        e(check, "40/height", 0, 8);
        e(check, "0-4096*4096*128-1", 0, Math.floorMod(Integer.MAX_VALUE, 360));
    }

    /** Of the LINE from a to b, which is meant: gap 30, far 50, stones 1, old 10, DEGREE 36. */
    private static void c(Check check, String cond, boolean due) {
        SkyStones x = Check.told("stone a 10 20 10;hole b 50 70 40;door a b;count if " + cond + ";");
        check.due(cond, x.line(1, 7, 0), due ? 1 : 0);
        check.due(cond + " as a STORY", x.story(0, 0, 0, 0, 0) > 0, x.lines(true, 0) > 0);
    }

    private static void conditions(Check check) {
        c(check, "gap==30 and far==50 and stones==1 and meant==1 and back==0 and old==10 and degree==36", true);
        c(check, "degree!=36", false);
        c(check, "year==0 and height==0", true);
        c(check, "1<1", false);
        c(check, "1<=1", true);
        c(check, "0-1<0", true);
        c(check, "1!=1 or 1==1", true);
        c(check, "1==1 or 1==1 and 1!=1", true);
        c(check, "1!=1 and 1==1 or 1==1", true);
        c(check, "1!=1 and 1==1 or 1!=1", false);
        c(check, "1!=1 or 1==1 and 1!=1 or 1==1 and 2==2", true);
        c(check, "1==1 or 1!=1 or 1!=1", true);
        c(check, "1!=1 or 1==1 or 1!=1", true);
        c(check, "not 1==1", false);
        c(check, "not 1!=1", true);
        c(check, "not not 1==1", true);
        c(check, "not 1!=1 and 1!=1", false);
        c(check, "not 1==1 or 1==1", true);
        c(check, "1/0==0", false);
        c(check, "1/0!=0", false);
        c(check, "0==1/0", false);
        c(check, "1/0==1/0", false);
        c(check, "not 1/0==0", true);
        c(check, "not not 1/0==0", false);
        c(check, "1/0==0 or 1==1", true);
        c(check, "not 1/0==0 and 1==1", true);
        c(check, "1==1 and 1/(gap-30)<5", false);
        c(check, "4096*4096*128<0", true);
        c(check, "((((((1))))))+(((gap)))==31", true);
    }
}
