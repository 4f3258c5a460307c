import java.nio.charset.StandardCharsets;

/** What the tests share: answers that are due, and texts put on the tape. */
final class Check {
    private int wrong = 0;
    private int asked = 0;

    void due(String what, long got, long want) {
        asked++;
        if (got != want) {
            wrong++;
            System.out.println(shorter(what) + ": answered " + got + ", due is " + want);
        }
    }

    static String shorter(String what) {
        return what.length() > 400 ? what.substring(0, 100) + " .. " + what.substring(what.length() - 100) : what;
    }

    void due(String what, boolean got, boolean want) {
        due(what, got ? 1 : 0, want ? 1 : 0);
    }

    void due(String what, String got, String want) {
        due(what + " (" + got + " for " + want + ")", got.equals(want), true);
    }

    boolean isRight() {
        return wrong == 0 && asked > 0;
    }

    /** Ends the test: with exit code 1 if an answer was not the one that was due. */
    void end() {
        System.out.println(asked + " answers, " + wrong + " wrong");
        if (wrong != 0 || asked == 0) {
            System.exit(1);
        }
    }

    static byte[] bytes(String text) {
        return text.getBytes(StandardCharsets.ISO_8859_1);
    }

    /** Puts a text on the tape, twenty bytes a call, and takes back what is too much. */
    static int put(SkyStones x, byte[] text) {
        int tape = x.count(8);
        for (int from = 0; from < text.length; from += 20) {
            int[] five = new int[5];
            for (int i = 0; i < 20; i++) {
                int sign = from + i < text.length ? text[from + i] & 255 : 32;
                five[i / 4] = five[i / 4] << 8 | sign;
            }
            tape = x.feed(five[0], five[1], five[2], five[3], five[4]);
        }
        int over = (20 - text.length % 20) % 20;
        return over == 0 ? tape : x.back(over);
    }

    static int tell(SkyStones x, String text) {
        put(x, bytes(text));
        return x.read();
    }

    /** A new object that has been told a text without a FAULT. */
    static SkyStones told(String text) {
        SkyStones x = new SkyStones();
        int fault = tell(x, text);
        if (fault != 0) {
            System.out.println("FAULT " + fault + " at " + x.place() + " in: " + text);
            System.exit(1);
        }
        return x;
    }

    /** That a text has a FAULT at a place, and that nothing was changed by it. */
    void fault(String text, int fault, int place) {
        SkyStones x = told("stone zz 7 7 7; near 9;");
        due("read of " + text, tell(x, text), fault);
        due("place of " + text, x.place(), place);
        due("tape after " + text, x.count(8), 0);
        if (fault != 0) {
            due("NEAR after " + text, x.count(5), 9);
            due("THINGS after " + text, x.count(0), 1);
        }
    }
}
