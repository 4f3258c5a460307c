/** Promises 21 to 25: many, allHits, alone, striking, price. */
final class TurnsTest {
    private static final String UP = "stone a 0 0 0;stone b 0 9 0;";
    private static final String EVERYWHERE = "near 20;sky p span 20=0;sky q span 20=72;sky r span 20=144;"
        + "sky s span 20=216;sky t span 20=288;";

    public static void main(String[] args) {
        Check check = new Check();
        asMany(check);
        sums(check);
        alone(check);
        striking(check);
        price(check);
        check.end();
    }

    /** LINES at 0 and 180 hit 0 in the turns 358 .. 2 and 178 .. 182. */
    private static void asMany(Check check) {
        SkyStones x = Check.told(UP + "sky p=year;sky q=180;");
        check.due("as one", x.many(1, 0, 0), 10);
        check.due("as none", x.many(1, 90, 0), 360);
        check.due("as two", x.many(3, 0, 0), 10);
        check.due("no PLACES", x.many(0, 0, 0), 360);
        check.due("a wider one", x.many(3, 4, 0), 2 * (5 + 4));
        check.due("no set", x.many(4, 0, 0), -1);
        check.due("set below", x.many(-1, 0, 0), -1);
        check.due("no YEAR", x.many(1, 5001, 0), -1);
        check.due("YEAR below", x.many(1, -1, 0), -1);
        check.due("no n", x.many(1, 0, 1), -1);
        check.due("n below", x.many(1, 0, -1), -1);
        x.gone(0);
        check.due("no LINES", x.many(1, 0, 1), 360);
        SkyStones y = Check.told(UP + "count if degree==0;sky p span 3=0;");
        check.due("what COUNTS, MAYBE", y.many(1, 0, 0), 11);
    }

    private static void sums(Check check) {
        SkyStones x = Check.told(UP + "sky p=year;sky q span 1=180;");
        check.due("two LINES, five DEGREES", x.allHits(1, 0, 0), 10);
        check.due("in any YEAR", x.allHits(1, 77, 0), 10);
        check.due("of both", x.allHits(3, 0, 0), 2 * 12);
        check.due("where both are", x.allHits(3, 180, 0), 2 * 7);
        check.due("no PLACES", x.allHits(0, 0, 0), 0);
        check.due("no set", x.allHits(4, 0, 0), -1);
        check.due("set below", x.allHits(-1, 0, 0), -1);
        check.due("no YEAR", x.allHits(1, 5001, 0), -1);
        check.due("no n", x.allHits(1, 0, 1), -1);
        SkyStones y = Check.told(fourteen("0") + EVERYWHERE);
        check.due("all ever", y.allHits(31, 0, 0), 182 * 360);
        check.due("all ever", y.many(31, 0, 0), 360);
    }

    /** The first six are of age 0, the others of a told one. */
    private static String fourteen(String age) {
        StringBuilder s = new StringBuilder();
        for (int i = 0; i < 14; i++) {
            s.append("hole ").append((char) ('a' + i)).append(' ').append(i * i).append(' ').append(7 * i);
            s.append(' ').append(i < 6 ? "0" : age).append(';');
        }
        return s.toString();
    }

    private static void alone(Check check) {
        SkyStones x = Check.told("stone a 0 0 0;stone b 0 9 0;stone c 9 0 0;stone d 9 9 0;stone e 99 0 0;sky p=year;");
        check.due("a b and c d", x.alone(1, 0, 0), 2);
        check.due("a c e and b d", x.alone(1, 90, 0), 2);
        check.due("a d", x.alone(1, 45, 0), 1);
        check.due("none", x.alone(1, 20, 0), 0);
        check.due("no PLACES", x.alone(0, 0, 0), 0);
        check.due("no set", x.alone(2, 0, 0), -1);
        check.due("set below", x.alone(-1, 0, 0), -1);
        check.due("no YEAR", x.alone(1, 5001, 0), -1);
        check.due("no n", x.alone(1, 0, 1), -1);
        x.gone(3);
        check.due("without d", x.alone(1, 0, 1), 1);
        String[] rules = {"", "count if old==0;", "count if gap==7;", "count if 6<old and gap==0;", "count if gap!=0 and 1==2;"};
        int[] due = {7, 6, 6, 4, 0};
        for (int i = 0; i < rules.length; i++) {
            SkyStones y = Check.told(fourteen("7") + EVERYWHERE + rules[i]);
            check.due("of fourteen " + rules[i], y.alone(31, 0, 0), due[i]);
            for (int gone = 0; gone < 5; gone++) {
                y.gone(13 - gone);
            }
            int[] less = {4, 4, 3, 1, 0};
            check.due("of nine " + rules[i], y.alone(31, 0, 5), less[i]);
        }
        SkyStones z = Check.told(fourteen("7") + EVERYWHERE + "count if far<17;");
        check.due("of several kinds", z.alone(31, 0, 0) > 2, true);
        star(check);
    }

    private static void star(Check check) {
        StringBuilder s = new StringBuilder("stone hub 500 500 1;");
        for (int i = 0; i < 13; i++) {
            s.append("hole ").append((char) ('a' + i)).append(' ').append(40 * i).append(' ').append(i * i).append(" 0;");
        }
        SkyStones x = Check.told(s + EVERYWHERE + "count if gap==1;");
        check.due("a star", x.alone(31, 0, 0), 1);
        x.gone(0);
        check.due("without its middle", x.alone(31, 0, 1), 0);
    }

    private static void striking(Check check) {
        SkyStones x = Check.told(UP + "near 17;sky p=0;");
        for (int t = 0; t < 5; t++) {
            check.due("turn " + t, x.striking(0, t, 0), 2 * (2 * t + 1));
            check.due("turn " + (180 + t), x.striking(0, 180 + t, 0), 2 * (2 * t + 1));
        }
        check.due("turn 5", x.striking(0, 5, 0), 360);
        check.due("turn 355", x.striking(0, 355, 0), 360);
        check.due("turn 356", x.striking(0, 356, 0), 18);
        SkyStones y = Check.told(UP + "sky p span 2=0;sky q=90;");
        check.due("a span", y.striking(0, 0, 0), 10);
        check.due("the other PLACE", y.striking(0, 90, 0), 2);
        check.due("turn 6", y.striking(0, 6, 0), 2 * 13);
        check.due("turn 7", y.striking(0, 7, 0), 360);
        check.due("no YEAR", y.striking(5001, 0, 0), -1);
        check.due("YEAR below", y.striking(-1, 0, 0), -1);
        check.due("no turn", y.striking(0, 360, 0), -1);
        check.due("turn below", y.striking(0, -1, 0), -1);
        check.due("no n", y.striking(0, 0, 1), -1);
        check.due("n below", y.striking(0, 0, -1), -1);
        SkyStones z = Check.told(UP);
        check.due("no PLACES", z.striking(0, 0, 0), 360);
        SkyStones w = Check.told("sky p=0;");
        check.due("no LINES", w.striking(0, 0, 0), 360);
    }

    private static void price(Check check) {
        SkyStones x = Check.told(UP + "sky p=year;");
        check.due("0 and 180", x.price(0, 0), 2);
        check.due("by 3", x.price(3, 0), 14);
        check.due("all", x.price(90, 0), 360);
        SkyStones y = Check.told(UP + "sky p=0;sky q=30;");
        check.due("two PLACES", y.price(0, 0), 4);
        check.due("no YEAR", y.price(5001, 0), -1);
        check.due("YEAR below", y.price(-1, 0), -1);
        check.due("no n", y.price(0, 1), -1);
        check.due("n below", y.price(0, -1), -1);
        SkyStones z = Check.told(UP + "count if degree==0;sky p=0;");
        check.due("one LINE", z.price(0, 0), 1);
        z.move(1, 9, 0);
        check.due("none then", z.price(0, 1), 360);
    }
}
