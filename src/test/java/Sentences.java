import java.util.function.IntToLongFunction;

/** Sentences of the document, each with a test of its own; one that asks nothing is broken too. */
final class Sentences {
    interface Body { void ask(Check check); }
    interface Call { long of(SkyStones x); }
    private int told = 0;
    private int broken = 0;

    void holds(String sentence, Body body) {
        Check check = new Check();
        told++;
        try {
            body.ask(check);
        } catch (RuntimeException | StackOverflowError thrown) {
            check.due("it throws " + thrown, true, false);
        }
        if (!check.isRight()) {
            broken++;
            System.out.println("BROKEN: " + Check.shorter(sentence));
        }
    }

    /** That a call answers at both ends of what there is, and refuses the next ones and those far off. */
    void bounds(String argument, int low, int high, long refusal, IntToLongFunction call) {
        for (int there : new int[] {low, high}) {
            holds(argument + " is " + there, c -> c.due("refused", call.applyAsLong(there) == refusal, false));
        }
        for (int beyond : new int[] {low - 1, high + 1, Integer.MIN_VALUE, Integer.MAX_VALUE}) {
            holds(argument + " is " + beyond, c -> c.due("answer", call.applyAsLong(beyond), refusal));
        }
    }

    /** That a call is refused and that nothing which can be asked is changed by it. */
    void refused(String sentence, SkyStones x, long refusal, Call call) {
        holds(sentence, c -> {
            String before = Seen.of(x);
            c.due("answer", call.of(x), refusal);
            String after = Seen.of(x);
            c.due("changed from " + before + " to " + after, after.equals(before), true);
        });
    }

    void end() {
        System.out.println(told + " sentences, " + broken + " broken");
        if (broken != 0 || told == 0) {
            System.exit(1);
        }
    }
}
