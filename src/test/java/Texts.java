import java.util.ArrayList;
import java.util.Collections;
import java.util.List;
import java.util.Random;

/** Texts by chance, sound ones and such with FAULTS. */
final class Texts {
    private static final String[] SKY_VARS = {"year", "height", "year", "height", "gap", "degree"};
    private static final String[] LINE_VARS =
        {"gap", "far", "stones", "meant", "back", "old", "degree", "year", "height"};
    private static final String[] JUNK = {"stone", "hole", "door", "hill", "sky", "span", "near", "count", "if", "or",
        "and", "not", "year", "height", "gap", "far", "stones", "meant", "back", "old", "degree", ";", "=", "+", "-",
        "*", "/", "==", "!=", "<", "<=", "(", ")", "!", ".", "a", "b", "abcdefgh", "abcdefghi", "7", "360", "1000",
        "9999", "12345", "A", "\u00e9", "\u0000", "<==", "===", ">"};
    private final Random random;

    Texts(Random random) {
        this.random = random;
    }

    int below(int n) {
        return random.nextInt(n);
    }

    private String e(boolean sky, int depth) {
        StringBuilder s = new StringBuilder(unit(sky, depth));
        int more = below(4) == 0 ? 2 : below(2);
        for (int i = 0; i < more; i++) {
            s.append("+-*/".charAt(below(4))).append(below(3) == 0 ? " " : "").append(unit(sky, depth));
        }
        return s.toString();
    }

    private String unit(boolean sky, int depth) {
        if (depth > 0 && below(4) == 0) {
            return "(" + e(sky, depth - 1) + ")";
        }
        String[] vars = sky ? SKY_VARS : LINE_VARS;
        return below(2) == 0 ? vars[below(vars.length)] : "" + below(below(2) == 0 ? 10 : below(2) == 0 ? 400 : 10000);
    }

    private String literal() {
        String not = below(5) == 0 ? below(3) == 0 ? "not not " : "not " : "";
        String[] signs = {"==", "!=", "<", "<="};
        return not + e(false, 2) + (below(2) == 0 ? " " : "") + signs[below(4)] + e(false, below(5) == 0 ? 6 : 1);
    }

    private String condition() {
        StringBuilder s = new StringBuilder(literal());
        for (int more = below(4); more > 0; more--) {
            s.append(below(2) == 0 ? " and " : " or ").append(literal());
        }
        return s.toString();
    }

    private static String name(int i) {
        return "t" + (char) ('a' + i);
    }

    /** TELLS in a good order; now and then a little is wrong with them. */
    List<String> tells() {
        List<String> list = new ArrayList<>();
        int things = below(3) == 0 ? 14 : below(15);
        int wide = below(3) == 0 ? 40 : 1000;
        for (int i = 0; i < things; i++) {
            String at = below(wide) + " " + below(wide) + " " + (below(2) == 0 ? below(10000) : 1000 * below(4));
            list.add((below(2) == 0 ? "stone " : "hole ") + name(i) + " " + at + ";");
        }
        for (int i = things < 2 ? 0 : below(9); i > 0; i--) {
            int from = below(things);
            int to = (from + 1 + below(things - 1)) % things;
            list.add("door " + name(from) + " " + name(to) + ";");
        }
        for (int i = below(13); i > 0; i--) {
            list.add("hill " + below(360) + " " + below(360) + " " + below(21) + ";");
        }
        int places = below(6);
        for (int i = 0; i < places; i++) {
            String span = below(2) == 0 ? "" : " span " + below(below(2) == 0 ? 4 : 21);
            list.add("sky s" + (char) ('a' + i) + span + "=" + e(true, 3) + ";");
        }
        if (below(2) == 0) {
            list.add("near " + below(below(2) == 0 ? 5 : 21) + ";");
        }
        for (int i = below(3) == 0 ? 0 : below(5); i > 0; i--) {
            list.add("count if " + condition() + ";");
        }
        return list;
    }

    /** One line; bytes beyond 2,000 are cut. */
    String sound() {
        String s = String.join(below(2) == 0 ? "\n" : "", tells());
        return s.length() > 2000 ? s.substring(0, 2000) : s;
    }

    /** A text with something put in, taken out, told again or changed. */
    String unsound() {
        List<String> list = tells();
        for (int i = below(4); i > 0 && !list.isEmpty(); i--) {
            String one = list.get(below(list.size()));
            list.add(below(list.size() + 1), one);
        }
        if (below(4) == 0) {
            Collections.shuffle(list, random);
        }
        if (below(4) == 0 && !list.isEmpty()) {
            int at = below(list.size());
            list.set(at, list.get(at).replaceFirst(" [0-9]+", " " + (below(2) == 0 ? 21 + below(340) : 360 + below(9000))));
        }
        StringBuilder s = new StringBuilder(String.join(" ", list));
        for (int i = Math.max(0, below(5) - 2); i > 0 && s.length() > 0; i--) {
            int at = below(s.length());
            switch (below(4)) {
                case 0 -> s.insert(at, (below(2) == 0 ? " " : "") + JUNK[below(JUNK.length)] + " ");
                case 1 -> s.deleteCharAt(at);
                case 2 -> s.setCharAt(at, (char) below(256));
                default -> s.setLength(at);
            }
        }
        return s.length() > 2000 ? s.substring(0, 2000) : s.toString();
    }

    /** TOKENS by chance, for SYNTAX. */
    String junk() {
        StringBuilder s = new StringBuilder(String.join(" ", tells()));
        s.setLength(Math.min(s.length(), below(60)));
        for (int i = below(12); i > 0; i--) {
            s.append(' ').append(JUNK[below(JUNK.length)]);
        }
        return s.toString();
    }

    /** A long text, about where the 401st TOKEN is. */
    String full() {
        StringBuilder s = new StringBuilder();
        int tokens = 395 + below(12);
        int first = below(3);
        for (int i = 0; i < first; i++) {
            s.append("near ").append(i).append(';');
            tokens -= 3;
        }
        s.append(below(2) == 0 ? "sky p=1" : "count if 1==1");
        tokens -= s.indexOf("sky") >= 0 ? 4 : 5;
        for (; tokens > 2; tokens -= 2) {
            s.append("+1");
        }
        return s.append(below(4) == 0 ? "" : ";").append(below(3) == 0 ? "near 3;" : "").toString();
    }
}
