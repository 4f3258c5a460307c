import java.util.Random;

/** Every call against Plain, on texts, FACTS and arguments by chance (told by seeds, so ever the same). */
final class ModelTest {
    private static final int RUNS = 700;
    private final Check check = new Check();
    private final Random random;
    private final Texts texts;
    private SkyStones x;
    private Plain y;

    private ModelTest(long seed) {
        random = new Random(seed);
        texts = new Texts(random);
    }

    public static void main(String[] args) {
        int runs = args.length > 0 ? Integer.parseInt(args[0]) : RUNS;
        long seed = args.length > 1 ? Long.parseLong(args[1]) : 20261118;
        ModelTest test = new ModelTest(seed);
        for (int run = 0; run < runs; run++) {
            test.run(run);
        }
        test.check.end();
    }

    private int below(int n) {
        return random.nextInt(n);
    }

    /** Mostly 0 .. most, at times just outside, at times far outside. */
    private int pick(int most) {
        int kind = below(24);
        if (kind == 0) {
            return -1;
        }
        if (kind == 1) {
            return most + 1;
        }
        if (kind == 2) {
            return most;
        }
        if (kind == 3 && below(4) == 0) {
            int[] far = {Integer.MIN_VALUE, Integer.MAX_VALUE, -most, 1 << 30};
            return far[below(far.length)];
        }
        return most < 0 || most > 1 << 28 ? 0 : below(most + 1);
    }

    private void run(int run) {
        x = new SkyStones();
        y = new Plain();
        for (int round = 1 + below(3); round > 0; round--) {
            text(run);
            facts(run);
            for (int i = 0; i < 50; i++) {
                ask(run, below(40));
            }
        }
        for (int what = -1; what <= 10; what++) {
            due(run, "count " + what, x.count(what), y.count(what));
        }
    }

    private void due(int run, String what, long got, long want) {
        if (got != want) {
            System.out.print("run " + run + ", ");
        }
        check.due(what, got, want);
    }

    private void text(int run) {
        int kind = below(8);
        String text = kind < 5 ? texts.sound() : kind == 5 ? texts.unsound() : kind == 6 ? texts.junk() : texts.full();
        due(run, "put", Check.put(x, Check.bytes(text)), text.length());
        y.tape = text;
        due(run, "read of " + text, x.read(), y.read());
        due(run, "place of " + text, x.place(), y.place);
    }

    /** GONE is rarer than the others, or no LINES would be left. */
    private void facts(int run) {
        for (int i = below(8) == 0 ? 70 : below(20); i > 0; i--) {
            int t = pick(y.things() - 1), e = pick(999), n = pick(999), a = pick(9999), f = pick(y.facts.size() - 1);
            switch (below(13)) {
                case 0, 1, 2 -> due(run, "found " + e + " " + n + " " + a, x.found(e, n, a), y.found(e, n, a));
                case 3, 4, 5 -> due(run, "move " + t + " " + e + " " + n, x.move(t, e, n), y.move(t, e, n));
                case 6, 7, 8 -> due(run, "date " + t + " " + a, x.date(t, a), y.date(t, a));
                case 9 -> due(run, "gone " + t, x.gone(t), y.gone(t));
                default -> due(run, "annul " + f, x.annul(f), y.annul(f));
            }
        }
    }

    private void ask(int run, int which) {
        int n = below(3) == 0 ? y.facts.size() : pick(y.facts.size());
        int set = below(3) == 0 ? (1 << y.text.places.size()) - 1 : pick((1 << y.text.places.size()) - 1);
        int year = pick(5000);
        switch (which % 4) {
            case 0 -> askThings(run, which / 4, n);
            case 1 -> askSky(run, which / 4, set, year, n);
            case 2 -> askStories(run, which / 4, set, year, n);
            default -> askOthers(run, which / 4);
        }
    }

    private int line() {
        int things = Math.max(1, y.things());
        return below(3) == 0 ? pick(195) : 14 * below(things) + below(things);
    }

    private void askThings(int run, int which, int n) {
        int t = pick(y.things() - 1), l = line(), d = pick(359);
        switch (which) {
            case 0, 1 -> {
                int w = pick(4);
                due(run, "thing " + t + " " + w + " " + n, x.thing(t, w, n), y.thing(t, w, n));
            }
            case 2, 3, 4 -> {
                int w = pick(7);
                due(run, "line " + l + " " + w + " " + n, x.line(l, w, n), y.line(l, w, n));
            }
            case 5 -> due(run, "lines " + n, x.lines(false, n), y.lines(false, n));
            case 6 -> due(run, "lines that count " + n, x.lines(true, n), y.lines(true, n));
            case 7 -> due(run, "height " + d, x.height(d), y.height(d));
            case 8 -> {
                int w = pick(1);
                due(run, "vector " + d + " " + w, x.vector(d, w), y.vector(d, w));
            }
            default -> {
                int small = below(2) == 0 ? 4 : 9999;
                int e = pick(small) - pick(small), m = pick(small) - pick(small);
                due(run, "degree " + e + " " + m, x.degree(e, m), y.degree(e, m));
            }
        }
    }

    private void askSky(int run, int which, int set, int year, int n) {
        int p = pick(y.text.places.size() - 1), l = line(), t = pick(359), i = pick(6);
        boolean sure = below(3) == 0;
        String of = " set " + set + " year " + year + " n " + n;
        switch (which) {
            case 0, 1 -> due(run, "rise " + p + of, x.rise(p, year), y.rise(p, year));
            case 2, 3 -> due(run, "hit " + l + " " + p + of, x.hit(l, p, year, n), y.hit(l, p, year, n));
            case 4 -> due(run, "hits " + t + sure + of, x.hits(set, year, t, sure, n), y.hits(set, year, t, sure, n));
            case 5 -> due(run, "hitAt " + i + sure + of, x.hitAt(set, year, sure, n, i), y.hitAt(set, year, sure, n, i));
            case 6 -> due(run, "many" + of, x.many(set, year, n), y.many(set, year, n));
            case 7 -> due(run, "allHits" + of, x.allHits(set, year, n), y.allHits(set, year, n));
            case 8 -> due(run, "alone" + of, x.alone(set, year, n), y.alone(set, year, n));
            default -> {
                if (below(5) == 0) {
                    due(run, "striking " + t + of, x.striking(year, t, n), y.striking(year, t, n));
                    due(run, "price" + of, x.price(year, n), y.price(year, n));
                }
            }
        }
    }

    private void askStories(int run, int which, int set, int year, int n) {
        int r = pick(y.text.rules.size() - 1), w = pick(2), m = pick(y.facts.size());
        int a = pick(5000), s = pick(100), k = below(3) == 0 ? pick(200) : pick(30), l = line();
        String of = " set " + set + " year " + year + " n " + n;
        String years = " from " + a + " by " + s + " in all " + k;
        switch (which) {
            case 0, 1, 2 ->
                due(run, "story " + r + " " + w + of, x.story(r, set, year, n, w), y.story(r, set, year, n, w));
            case 3 -> due(run, "otherwise " + m + of, x.otherwise(set, year, n, m), y.otherwise(set, year, n, m));
            case 4 -> due(run, "free" + of + years, x.free(set, n, a, s, k), y.free(set, n, a, s, k));
            case 5 -> due(run, "freer" + of + years, x.freer(set, n, a, s, k, year), y.freer(set, n, a, s, k, year));
            case 6 -> due(run, "next" + of, x.next(set, year, n), y.next(set, year, n));
            default -> due(run, "say " + l + of, x.say(l, year, n), y.say(l, year, n));
        }
    }

    private void askOthers(int run, int which) {
        int d = pick(359), w = pick(359), a = pick(20), seed = random.nextInt(), p = pick(7), m = pick(7), slot = pick(2);
        switch (which) {
            case 0, 1 -> due(run, "site " + d + " " + w, x.site(d, w), y.site(d, w));
            case 2 -> {
                boolean land = below(2) == 0;
                due(run, "pointing " + d + " " + a + land, x.pointing(d, a, land), y.pointing(d, a, land));
                due(run, "chance " + d + " " + a, x.chance(d, a), y.chance(d, a));
                if (below(4) == 0) {
                    due(run, "clear", x.clear(), y.clear());
                }
            }
            case 3 -> due(run, "made " + seed + " " + p + " " + m, x.made(seed, p, m), y.made(seed, p, m));
            case 4 -> {
                int t = pick(2 * p - 1), what = pick(1);
                String call = "madeAt " + seed + " " + p + " " + m + " " + t + " " + what;
                due(run, call, x.madeAt(seed, p, m, t, what), y.madeAt(seed, p, m, t, what));
            }
            case 5 -> {
                int k = below(4) == 0 ? pick(200) : pick(20), h = pick(20);
                String call = "odds " + seed + " " + p + " " + m + " " + k + " " + h;
                due(run, call, x.odds(seed, p, m, k, h), y.odds(seed, p, m, k, h));
            }
            case 6 -> askRings(run);
            case 7 -> {
                int n = pick(12), k = pick(13), b = pick(9), seen = pick(b);
                due(run, "seen " + n + " " + k + " " + seen + " " + b, x.seen(n, k, seen, b), y.seen(n, k, seen, b));
                int year = pick(5000), years = pick(90), r = pick(60), c = pick(r - 1);
                String call = "life " + year + " " + years + " " + r + " " + c;
                due(run, call, x.life(year, years, r, c), y.life(year, years, r, c));
            }
            case 8 -> due(run, "hold " + slot, x.hold(slot) ? 1 : 0, y.hold(slot));
            default -> due(run, "again " + slot, x.again(slot) ? 1 : 0, y.again(slot));
        }
    }

    private void askRings(int run) {
        int h = pick(100), m = pick(100), d = pick(100), e = pick(below(2) == 0 ? 9 : 99);
        int round = m > 0 && below(2) == 0 ? h * d / m + pick(5) : pick(9999);
        String call = "counts " + h + " " + m + " " + d + " " + round + " " + e;
        due(run, call, x.counts(h, m, d, round, e), y.counts(h, m, d, round, e));
        int n = pick(2000), m2 = pick(20), d2 = pick(20), e2 = pick(9);
        call = "anything " + h + " " + m2 + " " + d2 + " " + e2 + " " + n;
        due(run, call, x.anything(h, m2, d2, e2, n), y.anything(h, m2, d2, e2, n));
    }
}
