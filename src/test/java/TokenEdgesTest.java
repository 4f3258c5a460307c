import java.util.ArrayList;
import java.util.Arrays;
import java.util.List;

/** Terms: TOKENS, and SYNTAX at each TOKEN of each TELL. */
final class TokenEdgesTest {
    private static final String[] WORDS = {"stone", "hole", "door", "hill", "sky", "span", "near", "count", "if", "or",
        "and", "not", "year", "height", "gap", "far", "stones", "meant", "back", "old", "degree"};
    private static final String[] SIGNS = {";", "=", "+", "-", "*", "/", "==", "!=", "<", "<=", "(", ")"};
    private static final String[] NONE = {"abcdefghi", "12345", "!", ">", "?", ".", ",", "A", "_", "&", "|", "\"", "'",
        "[", "{", "\u00e9", "\u0000", "\u007f", "\u00ff"};
    private static final String TELLS = "stone hole door hill sky near count";
    private static final String UNITS = "INT VAR (";

    public static void main(String[] args) {
        Sentences s = new Sentences();
        bytes(s);
        names(s);
        ints(s);
        signs(s);
        longest(s);
        syntax(s);
        s.end();
    }

    private static void fault(Sentences s, String sentence, String text, int fault, int place) {
        s.holds(sentence + ": " + text, c -> c.fault(text, fault, place));
    }

    /** Each byte by itself, behind a TELL that is whole but for its last TOKEN. */
    private static void bytes(Sentences s) {
        for (int sign = 0; sign < 256; sign++) {
            String text = "near 2 " + (char) sign + ";";
            boolean blank = sign == 9 || sign == 10 || sign == 13 || sign == 32;
            if (blank) {
                fault(s, "blanks (9, 10, 13, 32), " + sign, text, 0, -1);
            } else {
                fault(s, "all else is no blank, " + sign, text, 1, sign == ';' ? 8 : 7);
            }
        }
        for (char blank : new char[] {9, 10, 13, 32}) {
            fault(s, "blanks between each two TOKENS, " + (int) blank,
                blank + "stone a 1 2 3 ; sky p = ( year + 1 ) ; count if gap == 1 ;".replace(' ', blank) + blank, 0, -1);
        }
        fault(s, "no blanks", "stone a1 2 3;hole b2 3 4;door a b;sky p=(year+1);count if gap==1;", 0, -1);
        fault(s, "blanks alone", " \t\r\n", 0, -1);
        fault(s, "nothing at all", "", 0, -1);
        fault(s, "a blank parts a NAME", "stone a b 1 2 3;", 1, 8);
        fault(s, "a blank parts an INT", "near 1 2;", 1, 7);
        fault(s, "a blank parts a word", "ne ar 1;", 1, 0);
        for (String two : new String[] {"= =", "! =", "< ="}) {
            fault(s, "a blank parts a SIGN", "count if 1" + two + "1;", 1, two.charAt(0) == '<' ? 12 : 10);
        }
    }

    private static void names(Sentences s) {
        fault(s, "a NAME of 1 letter, the first", "stone a 1 2 3;", 0, -1);
        fault(s, "a NAME of 1 letter, the last", "stone z 1 2 3;", 0, -1);
        fault(s, "a NAME of 8 letters", "stone zzzzzzzz 1 2 3;", 0, -1);
        fault(s, "9 letters are no TOKEN", "stone zzzzzzzzz 1 2 3;", 1, 6);
        fault(s, "9 letters are no TOKEN, a word ahead of them", "stoneaaaa a 1 2 3;", 1, 0);
        fault(s, "the sign below a", "stone ` 1 2 3;", 1, 6);
        fault(s, "the sign above z", "stone { 1 2 3;", 1, 6);
        fault(s, "no letter A", "stone A 1 2 3;", 1, 6);
        fault(s, "no letter Z within a NAME", "stone aZ 1 2 3;", 1, 7);
        fault(s, "NAMES that differ in the last of 8 letters", "stone aaaaaaaa 1 2 3;stone aaaaaaab 2 2 3;", 0, -1);
        fault(s, "NAMES that differ in length", "stone a 1 2 3;stone aa 2 2 3;stone aaa 3 2 3;", 0, -1);
        fault(s, "NAMES of the same letters", "stone ab 1 2 3;stone ba 2 2 3;sky b=1;sky a=1;", 0, -1);
        fault(s, "8 letters that are alike", "stone aaaaaaaa 1 2 3;stone aaaaaaaa 2 2 3;", 3, 27);
        for (String word : WORDS) {
            fault(s, "none of the words in quotes", "hole " + word + " 1 2 3;", 1, 5);
            fault(s, "a word with a letter more is a NAME", "hole " + word + "s 1 2 3;",
                word.equals("stone") ? 1 : 0, word.equals("stone") ? 5 : -1);
            fault(s, "a word with a letter less is a NAME", "hole " + word.substring(1) + " 1 2 3;", 0, -1);
        }
    }

    private static void ints(Sentences s) {
        fault(s, "an INT of 1 digit", "near 0;", 0, -1);
        fault(s, "an INT of 4 digits", "near 0020;", 0, -1);
        fault(s, "5 digits are no TOKEN, though they are small", "near 00020;", 1, 5);
        fault(s, "5 digits are no TOKEN", "sky p=10000;", 1, 6);
        fault(s, "4 digits in an E", "sky p=9999;", 0, -1);
        fault(s, "a great many digits are no TOKEN", "near " + "9".repeat(40) + ";", 1, 5);
        fault(s, "the sign above 9", "near 1:;", 1, 6);
        fault(s, "no INT below 0", "near -1;", 1, 5);
        fault(s, "an INT and a NAME without a blank", "stone a1 2 3;", 0, -1);
        fault(s, "an INT and a word without a blank", "sky p span 1=2;count if 1==1or 2==2and 3==3;", 0, -1);
    }

    private static void signs(Sentences s) {
        for (String sign : new String[] {"+", "-", "*", "/"}) {
            fault(s, "a SIGN", "sky p=1" + sign + "1;", 0, -1);
            fault(s, "two SIGNS one behind the other", "sky p=1" + sign + sign + "1;", 1, 8);
        }
        for (String sign : new String[] {"==", "!=", "<", "<="}) {
            fault(s, "a SIGN", "count if 1" + sign + "1;", 0, -1);
        }
        for (String none : new String[] {"!", ">", ">=", "=!", "=<", "=>", "&", "%", "^", "~"}) {
            fault(s, "no TOKEN, or none that goes on", "count if 1" + none + "1;", 1, 10);
        }
        fault(s, "no TOKEN behind one that goes on", "count if 1<>1;", 1, 11);
        fault(s, "!= at the text's end", "count if 1!", 1, 10);
        fault(s, "< at the text's end", "count if 1<", 1, 11);
        fault(s, "= at the text's end", "sky p=", 1, 6);
    }

    private static void longest(Sentences s) {
        fault(s, "the longest that can be: == and not = =", "sky p==1;", 1, 5);
        fault(s, "the longest that can be: == and then =", "count if 1===1;", 1, 12);
        fault(s, "the longest that can be: <= and then =", "count if 1<==1;", 1, 12);
        fault(s, "the longest that can be: != and then =", "count if 1!==1;", 1, 12);
        fault(s, "the longest that can be: stones and not stone s", "stones 1 2 3;", 1, 0);
        fault(s, "the longest that can be: stonea and not stone a", "stonea 1 2 3;", 1, 0);
        fault(s, "the longest that can be: iff and not if f", "count iff 1==1;", 1, 6);
        fault(s, "the longest that can be: notgap and not not gap", "count if notgap==1;", 1, 9);
    }

    // ---- SYNTAX

    private static String sample(String kind) {
        switch (kind) {
            case "NAME": return "zz";
            case "INT": return "7";
            default: return kind;
        }
    }

    /** Of each kind of TOKEN one (of words and SIGNS all), and what is none. */
    private static List<String> kinds() {
        List<String> all = new ArrayList<>(List.of("NAME", "INT"));
        all.addAll(Arrays.asList(WORDS));
        all.addAll(Arrays.asList(SIGNS));
        all.addAll(Arrays.asList(NONE));
        return all;
    }

    private static boolean goesOn(String kind, String with) {
        boolean var = Arrays.asList(WORDS).indexOf(kind) >= 12;
        return Arrays.asList(with.split(" ")).contains(var ? "VAR" : kind);
    }

    /** With what a text goes on behind its first 0, 1, .. TOKENS. */
    private static void tell(Sentences s, String text, String... with) {
        String[] tokens = text.split(" ");
        for (int taken = 0; taken < with.length; taken++) {
            String ahead = String.join(" ", Arrays.copyOf(tokens, taken)) + " ";
            for (String kind : kinds()) {
                String all = ahead + sample(kind);
                boolean on = goesOn(kind, with[taken]);
                s.holds((on ? "it goes on" : "SYNTAX: with which no text goes on") + ": " + all, c -> {
                    SkyStones x = new SkyStones();
                    boolean stopped = Check.tell(x, all) == 1 && x.place() == ahead.length();
                    c.due(all, stopped, !on);
                });
            }
            int end = ahead.length();
            int fault = taken == 0 || tokens[taken - 1].equals(";") ? 0 : 1;
            fault(s, "SYNTAX: the text's end", ahead, fault, fault == 0 ? -1 : end);
        }
    }

    private static void syntax(Sentences s) {
        String behind = "; + - * /";
        String sign = "== != < <= + - * /";
        String more = "; and or + - * /";
        String literal = "not " + UNITS;
        tell(s, "stone a 1 2 3 ;", TELLS, "NAME", "INT", "INT", "INT", ";", TELLS);
        tell(s, "hole a 1 2 3 ;", TELLS, "NAME", "INT", "INT", "INT", ";", TELLS);
        tell(s, "stone a 1 2 3 ; hole b 2 2 3 ; door a b ;", TELLS, "NAME", "INT", "INT", "INT", ";",
            TELLS, "NAME", "INT", "INT", "INT", ";", TELLS, "NAME", "NAME", ";", TELLS);
        tell(s, "hill 1 2 3 ;", TELLS, "INT", "INT", "INT", ";", TELLS);
        tell(s, "near 1 ;", TELLS, "INT", ";", TELLS);
        tell(s, "sky p = 1 + year * 2 ;", TELLS, "NAME", "span =", UNITS, behind, UNITS, behind, UNITS, behind, TELLS);
        tell(s, "sky p span 1 = ( 1 - ( 2 / 3 ) ) ;", TELLS, "NAME", "span =", "INT", "=", UNITS, UNITS, ") + - * /",
            UNITS, UNITS, ") + - * /", UNITS, ") + - * /", ") + - * /", behind, TELLS);
        tell(s, "count if 1 == gap ;", TELLS, "if", literal, sign, UNITS, more, TELLS);
        tell(s, "count if not not ( 1 ) < 2 and 3 != 4 or not 5 <= 6 ;", TELLS, "if", literal, literal, literal, UNITS,
            ") + - * /", sign, UNITS, more, literal, sign, UNITS, more, literal, literal, sign, UNITS, more, TELLS);
    }
}
