import java.util.Arrays;

/**
 * Stones and the sky: which lines of a site hit places of the sky, how many would however the site
 * were turned, and what may be said of a line then. The words in capitals are the document's.
 */
public final class SkyStones {
    public static final int NONE = -1;

    private static final int CIRCLE = 360;
    private static final int LAST_YEAR = 5000;
    private static final int MAX_BYTES = 2000;
    private static final int MAX_TOKENS = 400;
    private static final int MAX_THINGS = 14;
    private static final int MAX_DOORS = 8;
    private static final int MAX_HILLS = 12;
    private static final int MAX_PLACES = 5;
    private static final int MAX_RULES = 6;
    private static final int MAX_NESTED = 6;
    private static final int MAX_FACTS = 60;
    private static final int MAX_SITES = 6;
    private static final int MAX_SLOTS = 3;
    private static final int MAX_LINES = MAX_THINGS * (MAX_THINGS - 1);
    private static final int LINE_NUMBERS = MAX_THINGS * MAX_THINGS;
    private static final int MAX_ROUNDS = 2000;
    private static final int LAST_EAST = 999;
    private static final int LAST_AGE = 9999;
    private static final int LAST_SPAN = 20;
    private static final int USUAL_NEAR = 2;
    private static final int LAST_NEAR_AFTER = 4;
    private static final int TOO_MANY_TURNS = 18;

    private static final int NO_VECTOR = -100;
    private static final int NO_MADE_THING = -10000;
    private static final int NO_THINGS = -2;

    private static final int SYNTAX = 1;
    private static final int ROOM = 2;
    private static final int TWICE = 3;
    private static final int NAMELESS = 4;
    private static final int WRONG = 5;

    private static final int T_END = 0;
    private static final int T_BAD = 1;
    private static final int T_NAME = 2;
    private static final int T_INT = 3;
    private static final int T_STOP = 4;
    private static final int T_IS = 5;
    private static final int T_PLUS = 6;
    private static final int T_MINUS = 7;
    private static final int T_TIMES = 8;
    private static final int T_OVER = 9;
    private static final int T_SAME = 10;
    private static final int T_OTHER = 11;
    private static final int T_BELOW = 12;
    private static final int T_UP_TO = 13;
    private static final int T_OPEN = 14;
    private static final int T_CLOSE = 15;
    private static final int T_STONE = 16;
    private static final int T_HOLE = 17;
    private static final int T_DOOR = 18;
    private static final int T_HILL = 19;
    private static final int T_SKY = 20;
    private static final int T_SPAN = 21;
    private static final int T_NEAR = 22;
    private static final int T_COUNT = 23;
    private static final int T_IF = 24;
    private static final int T_OR = 25;
    private static final int T_AND = 26;
    private static final int T_NOT = 27;
    private static final int T_YEAR = 28;

    // The words in the order of T_STONE and on, six columns each.
    private static final String WORDS =
        "stone hole  door  hill  sky   span  near  count if    or    and   not   year  heightgap   far   stonesmeant back  old   degree";
    private static final int WORD_WIDTH = 6;
    private static final int WORD_TOTAL = 21;
    private static final int VAR_TOTAL = 9;
    private static final int V_YEAR = 0;
    private static final int V_HEIGHT = 1;
    private static final int V_GAP = 2;
    private static final int V_FAR = 3;
    private static final int V_STONES = 4;
    private static final int V_MEANT = 5;
    private static final int V_BACK = 6;
    private static final int V_OLD = 7;
    private static final int V_DEGREE = 8;

    private static final int FACT_FOUND = 0;
    private static final int FACT_MOVED = 1;
    private static final int FACT_GONE = 2;
    private static final int FACT_DATED = 3;
    private static final int FACT_VOID = 4;

    private final Tape tape = new Tape();
    private Told told = new Told();
    private Told spare = new Told();
    private final Reader reader = new Reader(tape, spare);
    private final Survey survey = new Survey();
    private final Told[] heldTold = new Told[MAX_SLOTS];
    private final Survey[] heldSurvey = new Survey[MAX_SLOTS];
    private final Ground ground = new Ground();
    private final Sky sky = new Sky();
    private final Turns turns = new Turns();
    private final Pairing pairing = new Pairing();
    private final Maker maker = new Maker();
    private int sites = 0;
    private final int[] siteWay = new int[MAX_SITES];
    private final int[] siteLand = new int[MAX_SITES];
    private final boolean[] marked = new boolean[MAX_ROUNDS + 1];

    public SkyStones() {
    }

    // ---- the tape and the text

    public int feed(int a, int b, int c, int d, int e) {
        if (tape.bytes + 20 > MAX_BYTES) {
            return NONE;
        }
        tape.append(a);
        tape.append(b);
        tape.append(c);
        tape.append(d);
        tape.append(e);
        return tape.bytes;
    }

    public int back(int n) {
        if (n < 0 || n > tape.bytes) {
            return NONE;
        }
        tape.bytes -= n;
        return tape.bytes;
    }

    public int read() {
        tape.cut();
        tape.bytes = 0;
        spare.forget();
        reader.tellAll(spare);
        if (reader.fault == 0) {
            Told before = told;
            told = spare;
            spare = before;
            survey.forget();
        }
        return reader.fault;
    }

    public int place() {
        return reader.where;
    }

    // ---- surveys

    public int found(int east, int north, int age) {
        int thing = thingsInAll();
        if (survey.facts >= MAX_FACTS || thing >= MAX_THINGS || !isSpot(east, north) || !isAge(age)) {
            return NONE;
        }
        survey.note(FACT_FOUND, thing, east, north, age);
        survey.finds++;
        return thing;
    }

    public int move(int thing, int east, int north) {
        if (!isThing(thing) || !isSpot(east, north)) {
            return NONE;
        }
        return survey.note(FACT_MOVED, thing, east, north, 0);
    }

    public int gone(int thing) {
        if (!isThing(thing)) {
            return NONE;
        }
        return survey.note(FACT_GONE, thing, 0, 0, 0);
    }

    public int date(int thing, int age) {
        if (!isThing(thing) || !isAge(age)) {
            return NONE;
        }
        return survey.note(FACT_DATED, thing, 0, 0, age);
    }

    public int annul(int fact) {
        if (fact < 0 || fact >= survey.facts || survey.kind[fact] == FACT_VOID) {
            return NONE;
        }
        return survey.note(FACT_VOID, fact, 0, 0, 0);
    }

    public int thing(int thing, int what, int n) {
        if (!isThing(thing) || !isKnown(n)) {
            return NONE;
        }
        ground.know(told, survey, n);
        switch (what) {
            case 0: return ground.east[thing];
            case 1: return ground.north[thing];
            case 2: return ground.age[thing];
            case 3: return ground.stone[thing];
            case 4: return ground.lost[thing] ? 1 : 0;
            default: return NONE;
        }
    }

    // ---- lines

    public int degree(int e, int n) {
        if (e < -9999 || e > 9999 || n < -9999 || n > 9999) {
            return NONE;
        }
        return Compass.bearing(e, n);
    }

    public int vector(int degree, int what) {
        if (!isDegree(degree) || what < 0 || what > 1) {
            return NO_VECTOR;
        }
        return what == 0 ? Compass.eastward(degree) : Compass.northward(degree);
    }

    public int line(int line, int what, int n) {
        if (!isKnown(n) || what < 0 || what > 7) {
            return NONE;
        }
        ground.know(told, survey, n);
        if (!ground.joins(line)) {
            return NONE;
        }
        if (what == 7) {
            return ground.holds(told, line, NONE) ? 1 : 0;
        }
        ground.describe(told, line);
        return what == 0 ? ground.traits[V_DEGREE] : ground.traits[V_GAP + what - 1];
    }

    public int lines(boolean counting, int n) {
        if (!isKnown(n)) {
            return NONE;
        }
        ground.know(told, survey, n);
        if (!counting) {
            return ground.joinedInAll();
        }
        ground.choose(told, NONE);
        return ground.chosen;
    }

    // ---- hills and sky

    public int height(int degree) {
        return isDegree(degree) ? told.hillOver(degree) : NONE;
    }

    public int rise(int place, int year) {
        if (!isPlace(place) || !isYear(year)) {
            return NONE;
        }
        return sky.rising(told, place, year);
    }

    public int hit(int line, int place, int year, int n) {
        if (!isPlace(place) || !isYear(year) || !isKnown(n)) {
            return NONE;
        }
        ground.know(told, survey, n);
        if (!ground.joins(line)) {
            return NONE;
        }
        sky.watch(told, year);
        int way = ground.bearingOf(line);
        int bit = 1 << place;
        if ((sky.struck(way, told.near, true) & bit) != 0) {
            return 2;
        }
        return (sky.struck(way, told.near, false) & bit) != 0 ? 1 : 0;
    }

    public int hits(int set, int year, int t, boolean sure, int n) {
        if (!isAsked(set, year, n) || !isDegree(t)) {
            return NONE;
        }
        lookAt(year, n, NONE);
        return hitsTurned(set, t, sure);
    }

    public int hitAt(int set, int year, boolean sure, int n, int i) {
        if (!isAsked(set, year, n) || i < 0) {
            return NONE;
        }
        lookAt(year, n, NONE);
        int ahead = 0;
        for (int k = 0; k < ground.chosen; k++) {
            if (strikes(ground.way[k], set, sure)) {
                if (ahead == i) {
                    return ground.number[k];
                }
                ahead++;
            }
        }
        return NONE;
    }

    // ---- turns

    public int many(int set, int year, int n) {
        if (!isAsked(set, year, n)) {
            return NONE;
        }
        turnAll(set, year, n, NONE);
        return turns.asManyAsUnturned();
    }

    public int allHits(int set, int year, int n) {
        if (!isAsked(set, year, n)) {
            return NONE;
        }
        turnAll(set, year, n, NONE);
        return turns.sum();
    }

    public int alone(int set, int year, int n) {
        if (!isAsked(set, year, n)) {
            return NONE;
        }
        lookAt(year, n, NONE);
        pairing.forget();
        for (int i = 0; i < ground.chosen; i++) {
            if (strikes(ground.way[i], set, false)) {
                pairing.join(ground.number[i] / MAX_THINGS, ground.number[i] % MAX_THINGS);
            }
        }
        return pairing.most();
    }

    public int striking(int year, int t, int n) {
        if (!isYear(year) || !isDegree(t) || !isKnown(n)) {
            return NONE;
        }
        lookAt(year, n, NONE);
        turns.tellAfter(ground, sky);
        return turns.least[t];
    }

    public int price(int year, int n) {
        if (!isYear(year) || !isKnown(n)) {
            return NONE;
        }
        lookAt(year, n, NONE);
        turns.tellAfter(ground, sky);
        int total = 0;
        for (int t = 0; t < CIRCLE; t++) {
            if (turns.least[t] <= turns.least[0]) {
                total++;
            }
        }
        return total;
    }

    // ---- stories

    public int story(int rule, int set, int year, int n, int what) {
        if (rule < 0 || rule >= told.rules || !isAsked(set, year, n)) {
            return NONE;
        }
        switch (what) {
            case 0:
                lookAt(year, n, rule);
                return ground.chosen;
            case 1:
                lookAt(year, n, rule);
                return hitsNow(set);
            case 2:
                turnAll(set, year, n, rule);
                return turns.asManyAsUnturned();
            default:
                return NONE;
        }
    }

    public int otherwise(int set, int year, int n, int m) {
        if (!isAsked(set, year, n) || !isKnown(m)) {
            return NONE;
        }
        lookAt(year, n, NONE);
        for (int line = 0; line < LINE_NUMBERS; line++) {
            marked[line] = false;
        }
        for (int i = 0; i < ground.chosen; i++) {
            marked[ground.number[i]] = strikes(ground.way[i], set, false);
        }
        lookAt(year, m, NONE);
        for (int i = 0; i < ground.chosen; i++) {
            if (strikes(ground.way[i], set, false)) {
                marked[ground.number[i]] = false;
            }
        }
        return markedUpTo(LINE_NUMBERS - 1);
    }

    public int free(int set, int n, int a, int s, int k) {
        if (!isAsked(set, a, n) || !isYears(a, s, k)) {
            return NONE;
        }
        lookAt(a, n, NONE);
        int most = NONE;
        int first = a;
        for (int i = 0; i < k; i++) {
            int hitsThen = hitsIn(set, a + i * s);
            if (hitsThen > most) {
                most = hitsThen;
                first = a + i * s;
            }
        }
        return first;
    }

    public int freer(int set, int n, int a, int s, int k, int year) {
        if (!isAsked(set, year, n) || !isYears(a, s, k)) {
            return NONE;
        }
        lookAt(year, n, NONE);
        int asked = hitsNow(set);
        int total = 0;
        for (int i = 0; i < k; i++) {
            if (hitsIn(set, a + i * s) >= asked) {
                total++;
            }
        }
        return total;
    }

    public int next(int set, int year, int n) {
        if (!isAsked(set, year, n)) {
            return NONE;
        }
        lookAt(year, n, NONE);
        int most = NONE;
        int best = NO_THINGS;
        for (int thing = 0; thing < ground.things; thing++) {
            if (!ground.lost[thing]) {
                int change = hitsOf(thing, set);
                if (change > most) {
                    most = change;
                    best = thing;
                }
            }
        }
        return best;
    }

    // ---- sites with one line each

    public int site(int degree, int way) {
        if (sites >= MAX_SITES || !isDegree(degree) || !isDegree(way)) {
            return NONE;
        }
        siteWay[sites] = degree;
        siteLand[sites] = way;
        sites++;
        return sites - 1;
    }

    public int clear() {
        int before = sites;
        sites = 0;
        return before;
    }

    public int pointing(int degree, int d, boolean land) {
        if (!isDegree(degree) || d < 0 || d > 20) {
            return NONE;
        }
        return near(degree, d, land ? siteLand : siteWay);
    }

    public long chance(int degree, int d) {
        if (!isDegree(degree) || d < 0 || d > 20) {
            return NONE;
        }
        int wide = 2 * d + 1;
        return ways(sites, near(degree, d, siteWay), wide, CIRCLE - wide);
    }

    // ---- made sites

    public int made(int seed, int p, int m) {
        if (!isMade(p, m)) {
            return NONE;
        }
        sky.watch(told, 0);
        turns.cover(sky, told.near);
        maker.make(seed, p, m, sky);
        return maker.strikes(p, turns.struck);
    }

    public int madeAt(int seed, int p, int m, int thing, int what) {
        if (!isMade(p, m) || thing < 0 || thing >= 2 * p || what < 0 || what > 1) {
            return NO_MADE_THING;
        }
        sky.watch(told, 0);
        maker.make(seed, p, m, sky);
        return what == 0 ? maker.east[thing] : maker.north[thing];
    }

    public int odds(int seed, int p, int m, int k, int h) {
        if (!isMade(p, m) || k < 1 || k > 200) {
            return NONE;
        }
        sky.watch(told, 0);
        turns.cover(sky, told.near);
        int total = 0;
        for (int i = 0; i < k; i++) {
            maker.make(seed + i, p, m, sky);
            if (maker.strikes(p, turns.struck) >= h) {
                total++;
            }
        }
        return total;
    }

    // ---- rings and lives

    public int counts(int h, int m, int d, int round, int e) {
        if (h < 1 || h > 100 || m < 1 || m > 100 || d < 1 || d > 100) {
            return NONE;
        }
        if (round < 1 || round > 9999 || e < 0 || e > 99) {
            return NONE;
        }
        return Math.abs(h * d - round * m) <= e * m ? 1 : 0;
    }

    public int anything(int h, int m, int d, int e, int n) {
        if (h < 1 || h > 100 || m < 1 || m > 20 || d < 1 || d > 20) {
            return NONE;
        }
        if (e < 0 || e > 9 || n < 1 || n > MAX_ROUNDS) {
            return NONE;
        }
        for (int round = 0; round <= n; round++) {
            marked[round] = false;
        }
        for (int by = 1; by <= m; by++) {
            for (int days = 1; days <= d; days++) {
                markRounds(h * days, by, e, n);
            }
        }
        return markedUpTo(n);
    }

    public int life(int year, int years, int r, int c) {
        if (!isYear(year) || years < 1 || years > 90 || r < 2 || r > 60 || c < 0 || c >= r) {
            return NONE;
        }
        int total = 0;
        for (int y = year; y < year + years; y++) {
            if (y % r == c) {
                total++;
            }
        }
        return total;
    }

    public long seen(int n, int k, int a, int b) {
        if (n < 0 || n > 12 || k < 0 || k > 13 || b < 1 || b > 9 || a < 0 || a > b) {
            return NONE;
        }
        return ways(n, k, a, b - a);
    }

    public int say(int line, int year, int n) {
        if (line < 0 || line >= LINE_NUMBERS || !isYear(year) || !isKnown(n)) {
            return NONE;
        }
        ground.know(told, survey, n);
        if (!ground.joins(line)) {
            return 0;
        }
        if (!ground.holds(told, line, NONE)) {
            return 1;
        }
        int everyPlace = (1 << told.places) - 1;
        int way = ground.bearingOf(line);
        sky.watch(told, year);
        if (!strikes(way, everyPlace, false)) {
            return 2;
        }
        turnAll(everyPlace, year, n, NONE);
        if (turns.asManyAsUnturned() > TOO_MANY_TURNS) {
            return 3;
        }
        ground.describe(told, line);
        if (ground.traits[V_MEANT] == 0 && ground.traits[V_BACK] == 0) {
            return 4;
        }
        return strikes(way, everyPlace, true) ? 6 : 5;
    }

    // ---- slots

    public boolean hold(int slot) {
        if (slot < 0 || slot >= MAX_SLOTS) {
            return false;
        }
        if (heldTold[slot] == null || heldSurvey[slot] == null) {
            heldTold[slot] = new Told();
            heldSurvey[slot] = new Survey();
        }
        heldTold[slot].copy(told);
        heldSurvey[slot].copy(survey);
        return true;
    }

    public boolean again(int slot) {
        if (slot < 0 || slot >= MAX_SLOTS || heldTold[slot] == null || heldSurvey[slot] == null) {
            return false;
        }
        told.copy(heldTold[slot]);
        survey.copy(heldSurvey[slot]);
        return true;
    }

    public int count(int what) {
        switch (what) {
            case 0: return thingsInAll();
            case 1: return told.doors;
            case 2: return told.hills;
            case 3: return told.places;
            case 4: return told.rules;
            case 5: return told.near;
            case 6: return survey.facts;
            case 7: return sites;
            case 8: return tape.bytes;
            case 9: return slotsHeld();
            default: return NONE;
        }
    }

    // ---- what may be asked for

    private int thingsInAll() {
        return told.things + survey.finds;
    }

    private boolean isThing(int thing) {
        return thing >= 0 && thing < thingsInAll() && thing < MAX_THINGS;
    }

    private static boolean isSpot(int east, int north) {
        return east >= 0 && east <= LAST_EAST && north >= 0 && north <= LAST_EAST;
    }

    private static boolean isAge(int age) {
        return age >= 0 && age <= LAST_AGE;
    }

    private static boolean isDegree(int degree) {
        return degree >= 0 && degree < CIRCLE;
    }

    private static boolean isYear(int year) {
        return year >= 0 && year <= LAST_YEAR;
    }

    private static boolean isYears(int a, int s, int k) {
        return isYear(a) && s >= 1 && s <= 100 && k >= 1 && k <= 200 && isYear(a + s * (k - 1));
    }

    private static boolean isMade(int p, int m) {
        return p >= 1 && p <= 7 && m >= 0 && m <= p;
    }

    private boolean isKnown(int n) {
        return n >= 0 && n <= survey.facts;
    }

    private boolean isPlace(int place) {
        return place >= 0 && place < told.places;
    }

    private boolean isAsked(int set, int year, int n) {
        return set >= 0 && set < (1 << told.places) && isYear(year) && isKnown(n);
    }

    private int slotsHeld() {
        int total = 0;
        for (int slot = 0; slot < MAX_SLOTS; slot++) {
            if (heldTold[slot] != null) {
                total++;
            }
        }
        return total;
    }

    // ---- parts of answers

    /** With rule NONE the LINES that COUNT are chosen, else those for which that RULE holds. */
    private void lookAt(int year, int n, int rule) {
        ground.know(told, survey, n);
        ground.choose(told, rule);
        sky.watch(told, year);
    }

    private void turnAll(int set, int year, int n, int rule) {
        lookAt(year, n, rule);
        turns.gather(ground);
        turns.cover(sky, told.near);
        turns.spin(set);
    }

    private boolean strikes(int way, int set, boolean sure) {
        return (sky.struck(way, told.near, sure) & set) != 0;
    }

    private int hitsTurned(int set, int t, boolean sure) {
        int total = 0;
        for (int i = 0; i < ground.chosen; i++) {
            if (strikes(Compass.turned(ground.way[i], t), set, sure)) {
                total++;
            }
        }
        return total;
    }

    private int hitsNow(int set) {
        return hitsTurned(set, 0, false);
    }

    private int hitsIn(int set, int year) {
        sky.watch(told, year);
        return hitsNow(set);
    }

    private int hitsOf(int thing, int set) {
        int total = 0;
        for (int i = 0; i < ground.chosen; i++) {
            int line = ground.number[i];
            boolean touches = line / MAX_THINGS == thing || line % MAX_THINGS == thing;
            if (touches && strikes(ground.way[i], set, false)) {
                total++;
            }
        }
        return total;
    }

    private int near(int degree, int d, int[] ways) {
        int total = 0;
        for (int i = 0; i < sites; i++) {
            if (Compass.apart(ways[i], degree) <= d) {
                total++;
            }
        }
        return total;
    }

    /** Marks the ROUNDS up to last that a marker counts within e; it goes round in days / by days. */
    private void markRounds(int days, int by, int e, int last) {
        if (by < 1) {
            return;
        }
        int from = Math.max(1, days / by - e);
        int to = Math.min(last, days / by + e + 1);
        for (int round = from; round <= to; round++) {
            if (Math.abs(days - round * by) <= e * by) {
                marked[round] = true;
            }
        }
    }

    private int markedUpTo(int last) {
        int total = 0;
        for (int i = 0; i <= last && i <= MAX_ROUNDS; i++) {
            if (marked[i]) {
                total++;
            }
        }
        return total;
    }

    /** Of n draws, each one of hit + miss: how many ways have k hits or more. */
    private static long ways(int n, int k, int hit, int miss) {
        long total = 0;
        long choices = 1;
        for (int j = 0; j <= n; j++) {
            if (j >= k) {
                total += choices * power(hit, j) * power(miss, n - j);
            }
            choices = choices * (n - j) / (j + 1);
        }
        return total;
    }

    private static long power(int base, int times) {
        long product = 1;
        for (int i = 0; i < times; i++) {
            product *= base;
        }
        return product;
    }

    /** DEGREES, VECTORS and what lies between two DEGREES. */
    private static final class Compass {
        static int bearing(int e, int n) {
            int a = Math.abs(e);
            int b = Math.abs(n);
            int most = Math.max(a, b);
            if (most == 0) {
                return NONE;
            }
            int q = 45 * Math.min(a, b) / most;
            if (e >= 0 && n > 0) {
                return a <= b ? q : 90 - q;
            }
            if (e > 0) {
                return b <= a ? 90 + q : 180 - q;
            }
            if (n < 0) {
                return a <= b ? 180 + q : 270 - q;
            }
            return b <= a ? 270 + q : (CIRCLE - q) % CIRCLE;
        }

        static int eastward(int degree) {
            if (degree <= 45) {
                return degree;
            }
            if (degree <= 135) {
                return 45;
            }
            if (degree <= 225) {
                return 180 - degree;
            }
            return degree <= 315 ? -45 : degree - CIRCLE;
        }

        static int northward(int degree) {
            if (degree <= 45) {
                return 45;
            }
            if (degree <= 135) {
                return 90 - degree;
            }
            if (degree <= 225) {
                return -45;
            }
            return degree <= 315 ? degree - 270 : 45;
        }

        static int apart(int a, int b) {
            int oneWay = Math.abs(a - b);
            return Math.min(oneWay, CIRCLE - oneWay);
        }

        static int turned(int degree, int t) {
            int sum = degree + t;
            return sum < CIRCLE ? sum : sum - CIRCLE;
        }
    }

    /** The bytes that wait to be read, and the TOKENS that they are cut into. */
    private static final class Tape {
        int bytes = 0;
        private final byte[] row = new byte[MAX_BYTES];
        private int tokens = 0;
        // One TOKEN too many is kept, for its place; the text's end comes behind the last.
        final int[] kind = new int[MAX_TOKENS + 2];
        final int[] start = new int[MAX_TOKENS + 2];
        final int[] number = new int[MAX_TOKENS + 2];
        final long[] name = new long[MAX_TOKENS + 2];

        void append(int four) {
            for (int shift = 24; shift >= 0 && bytes < MAX_BYTES; shift -= 8) {
                row[bytes] = (byte) (four >> shift);
                bytes++;
            }
        }

        void cut() {
            tokens = 0;
            int at = 0;
            for (int i = 0; i <= MAX_TOKENS; i++) {
                at = behindBlanks(at);
                if (at >= bytes) {
                    break;
                }
                start[tokens] = at;
                at = cutOne(at);
                tokens++;
            }
            kind[tokens] = T_END;
            start[tokens] = bytes;
        }

        private int sign(int at) {
            return at >= 0 && at < bytes ? row[at] & 255 : 0;
        }

        private static boolean isLetter(int sign) {
            return sign >= 'a' && sign <= 'z';
        }

        private static boolean isDigit(int sign) {
            return sign >= '0' && sign <= '9';
        }

        private int behindBlanks(int from) {
            for (int at = from; at < bytes; at++) {
                int sign = sign(at);
                if (sign != 9 && sign != 10 && sign != 13 && sign != 32) {
                    return at;
                }
            }
            return bytes;
        }

        /** Answers the place behind the TOKEN at a place. */
        private int cutOne(int at) {
            if (isLetter(sign(at))) {
                return cutWord(at);
            }
            if (isDigit(sign(at))) {
                return cutNumber(at);
            }
            kind[tokens] = signKind(sign(at), sign(at + 1) == '=');
            boolean two = kind[tokens] == T_SAME || kind[tokens] == T_OTHER || kind[tokens] == T_UP_TO;
            return two ? at + 2 : at + 1;
        }

        private static int signKind(int sign, boolean equalsBehind) {
            switch (sign) {
                case ';': return T_STOP;
                case '=': return equalsBehind ? T_SAME : T_IS;
                case '+': return T_PLUS;
                case '-': return T_MINUS;
                case '*': return T_TIMES;
                case '/': return T_OVER;
                case '!': return equalsBehind ? T_OTHER : T_BAD;
                case '<': return equalsBehind ? T_UP_TO : T_BELOW;
                case '(': return T_OPEN;
                case ')': return T_CLOSE;
                default: return T_BAD;
            }
        }

        private int cutNumber(int from) {
            int value = 0;
            int at = from;
            for (; at < bytes && isDigit(sign(at)); at++) {
                if (at - from < 4) {
                    value = 10 * value + sign(at) - '0';
                }
            }
            kind[tokens] = at - from <= 4 ? T_INT : T_BAD;
            number[tokens] = value;
            return at;
        }

        private int cutWord(int from) {
            long letters = 0;
            int at = from;
            for (; at < bytes && isLetter(sign(at)); at++) {
                if (at - from < 8) {
                    letters = 32 * letters + sign(at) - 'a' + 1;
                }
            }
            kind[tokens] = at - from <= 8 ? wordKind(from, at - from) : T_BAD;
            name[tokens] = letters;
            return at;
        }

        private int wordKind(int from, int length) {
            for (int word = 0; word < WORD_TOTAL && length <= WORD_WIDTH; word++) {
                if (isWord(word, from, length)) {
                    return T_STONE + word;
                }
            }
            return T_NAME;
        }

        private boolean isWord(int word, int from, int length) {
            for (int i = 0; i < WORD_WIDTH; i++) {
                int letter = i < length ? sign(from + i) : ' ';
                int at = word * WORD_WIDTH + i;
                if (at >= WORDS.length() || WORDS.charAt(at) != letter) {
                    return false;
                }
            }
            return true;
        }
    }

    /** Goes through the TOKENS once: tells a Told what they say, or finds the FAULT. */
    private static final class Reader {
        int fault = 0;
        int where = NONE;
        private final Tape tape;
        private Told told;
        private int at = 0;
        // SYNTAX and ROOM anywhere come ahead of the other FAULTS, so these wait here.
        private int laterFault = 0;
        private int laterWhere = NONE;
        private final long[] thingName = new long[MAX_THINGS];
        private final long[] skyName = new long[MAX_PLACES];

        Reader(Tape tape, Told told) {
            this.tape = tape;
            this.told = told;
        }

        void tellAll(Told to) {
            told = to;
            at = 0;
            fault = 0;
            where = NONE;
            laterFault = 0;
            laterWhere = NONE;
            for (int i = 0; i <= MAX_TOKENS && fault == 0; i++) {
                int kind = kindHere();
                if (kind == T_END) {
                    break;
                }
                switch (kind) {
                    case T_STONE: tellThing(kind); break;
                    case T_HOLE: tellThing(kind); break;
                    case T_DOOR: tellDoor(); break;
                    case T_HILL: tellHill(); break;
                    case T_SKY: tellSky(); break;
                    case T_NEAR: tellNear(); break;
                    case T_COUNT: tellRule(); break;
                    default: stop(SYNTAX); break;
                }
            }
            if (fault == 0) {
                fault = laterFault;
                where = laterWhere;
            }
        }

        private int kindHere() {
            return at <= MAX_TOKENS ? tape.kind[at] : T_END;
        }

        private void stop(int which) {
            if (fault == 0 && at <= MAX_TOKENS) {
                fault = which;
                where = tape.start[at];
            }
        }

        /** Goes behind the TOKEN here if it is of that kind and not one too many. */
        private boolean take(int kind) {
            if (fault != 0 || at > MAX_TOKENS) {
                return false;
            }
            if (tape.kind[at] == kind && at < MAX_TOKENS) {
                at++;
                return true;
            }
            fault = tape.kind[at] == kind ? ROOM : SYNTAX;
            where = tape.start[at];
            return false;
        }

        private boolean hasRoom(int there, int most) {
            if (there >= most) {
                stop(ROOM);
            }
            return fault == 0;
        }

        /** TELLS come in the order of their places, so the first that is blamed is the first one. */
        private void blame(int which, int token) {
            if (laterFault == 0 && token >= 0 && token <= MAX_TOKENS) {
                laterFault = which;
                laterWhere = tape.start[token];
            }
        }

        private void blameAbove(int most, int token) {
            if (tape.number[token] > most) {
                blame(WRONG, token);
            }
        }

        private int thingNamed(long name) {
            for (int i = 0; i < told.things; i++) {
                if (thingName[i] == name) {
                    return i;
                }
            }
            return NONE;
        }

        private void blameIfNamed(int token) {
            boolean twice = thingNamed(tape.name[token]) != NONE;
            for (int i = 0; i < told.places; i++) {
                twice = twice || skyName[i] == tape.name[token];
            }
            if (twice) {
                blame(TWICE, token);
            }
        }

        private void tellThing(int kind) {
            int first = at;
            if (!hasRoom(told.things, MAX_THINGS)) {
                return;
            }
            if (take(kind) && take(T_NAME) && take(T_INT) && take(T_INT) && take(T_INT) && take(T_STOP)) {
                blameIfNamed(first + 1);
                blameAbove(LAST_EAST, first + 2);
                blameAbove(LAST_EAST, first + 3);
                if (told.isTaken(tape.number[first + 2], tape.number[first + 3])) {
                    blame(TWICE, first + 3);
                }
                int thing = told.things;
                thingName[thing] = tape.name[first + 1];
                told.east[thing] = tape.number[first + 2];
                told.north[thing] = tape.number[first + 3];
                told.age[thing] = tape.number[first + 4];
                told.stone[thing] = kind == T_STONE ? 1 : 0;
                told.things++;
            }
        }

        private void tellDoor() {
            int first = at;
            if (!hasRoom(told.doors, MAX_DOORS)) {
                return;
            }
            if (take(T_DOOR) && take(T_NAME) && take(T_NAME) && take(T_STOP)) {
                int from = thingNamed(tape.name[first + 1]);
                int to = thingNamed(tape.name[first + 2]);
                if (from == NONE) {
                    blame(NAMELESS, first + 1);
                } else if (to == NONE) {
                    blame(NAMELESS, first + 2);
                } else if (from == to) {
                    blame(WRONG, first + 2);
                } else {
                    told.doorsFrom[from] |= 1 << to;
                }
                told.doors++;
            }
        }

        private void tellHill() {
            int first = at;
            if (!hasRoom(told.hills, MAX_HILLS)) {
                return;
            }
            if (take(T_HILL) && take(T_INT) && take(T_INT) && take(T_INT) && take(T_STOP)) {
                blameAbove(CIRCLE - 1, first + 1);
                blameAbove(CIRCLE - 1, first + 2);
                blameAbove(LAST_SPAN, first + 3);
                int hill = told.hills;
                told.hillFrom[hill] = tape.number[first + 1];
                told.hillTo[hill] = tape.number[first + 2];
                told.hillHeight[hill] = tape.number[first + 3];
                told.hills++;
            }
        }

        private void tellNear() {
            int first = at;
            if (take(T_NEAR) && take(T_INT) && take(T_STOP)) {
                blameAbove(LAST_SPAN, first + 1);
                told.near = tape.number[first + 1];
            }
        }

        private void tellSky() {
            int first = at;
            if (!hasRoom(told.places, MAX_PLACES) || !take(T_SKY) || !take(T_NAME)) {
                return;
            }
            blameIfNamed(first + 1);
            int place = told.places;
            told.span[place] = 0;
            if (kindHere() == T_SPAN && take(T_SPAN) && take(T_INT)) {
                blameAbove(LAST_SPAN, first + 3);
                told.span[place] = tape.number[first + 3];
            }
            skyName[place] = tape.name[first + 1];
            take(T_IS);
            told.code.open(place);
            sum(0);
            told.code.close(place);
            take(T_STOP);
            told.places++;
        }

        private void tellRule() {
            if (!hasRoom(told.rules, MAX_RULES)) {
                return;
            }
            int piece = MAX_PLACES + told.rules;
            take(T_COUNT);
            take(T_IF);
            told.code.open(piece);
            literal();
            boolean ahead = false;
            for (int i = 0; i < MAX_TOKENS && fault == 0; i++) {
                if (kindHere() == T_AND && take(T_AND)) {
                    literal();
                    told.code.put(T_AND, 0);
                } else if (kindHere() == T_OR && take(T_OR)) {
                    // What stands ahead of this 'or' is whole now, its ands too.
                    if (ahead) {
                        told.code.put(T_OR, 0);
                    }
                    ahead = true;
                    literal();
                } else {
                    break;
                }
            }
            if (ahead) {
                told.code.put(T_OR, 0);
            }
            told.code.close(piece);
            take(T_STOP);
            told.rules++;
        }

        private void literal() {
            boolean not = false;
            for (int i = 0; i < MAX_TOKENS && kindHere() == T_NOT && take(T_NOT); i++) {
                not = !not;
            }
            sum(0);
            int sign = kindHere();
            if (sign < T_SAME || sign > T_UP_TO) {
                stop(SYNTAX);
            }
            take(sign);
            sum(0);
            told.code.put(sign, 0);
            if (not) {
                told.code.put(T_NOT, 0);
            }
        }

        private void sum(int depth) {
            product(depth);
            for (int i = 0; i < MAX_TOKENS && fault == 0; i++) {
                int sign = kindHere();
                if (sign != T_PLUS && sign != T_MINUS) {
                    break;
                }
                take(sign);
                product(depth);
                told.code.put(sign, 0);
            }
        }

        private void product(int depth) {
            unit(depth);
            for (int i = 0; i < MAX_TOKENS && fault == 0; i++) {
                int sign = kindHere();
                if (sign != T_TIMES && sign != T_OVER) {
                    break;
                }
                take(sign);
                unit(depth);
                told.code.put(sign, 0);
            }
        }

        private void unit(int depth) {
            int kind = kindHere();
            int token = at;
            if (kind == T_OPEN && depth >= MAX_NESTED) {
                stop(ROOM);
            } else if (kind == T_OPEN) {
                if (take(T_OPEN)) {
                    sum(depth + 1);
                    take(T_CLOSE);
                }
            } else if (kind == T_INT || kind >= T_YEAR) {
                if (take(kind)) {
                    told.code.put(kind, tape.number[token]);
                }
            } else {
                stop(SYNTAX);
            }
        }
    }

    /** The Es of the PLACES and the CONDS of the RULES, operators behind what they work on. */
    private static final class Code {
        private static final int PIECES = MAX_PLACES + MAX_RULES;
        // Two wait in each of seven Es within one another, one for a sign of a LIT, one for an 'or'.
        private static final int STACK = 24;
        private int used = 0;
        private final int[] sign = new int[MAX_TOKENS];
        private final int[] number = new int[MAX_TOKENS];
        private final int[] from = new int[PIECES];
        private final int[] to = new int[PIECES];
        private final int[] stack = new int[STACK];
        private boolean broken = false;

        void forget() {
            used = 0;
        }

        void copy(Code other) {
            used = other.used;
            System.arraycopy(other.sign, 0, sign, 0, MAX_TOKENS);
            System.arraycopy(other.number, 0, number, 0, MAX_TOKENS);
            System.arraycopy(other.from, 0, from, 0, PIECES);
            System.arraycopy(other.to, 0, to, 0, PIECES);
        }

        void open(int piece) {
            if (piece >= 0 && piece < PIECES) {
                from[piece] = used;
                to[piece] = used;
            }
        }

        void close(int piece) {
            if (piece >= 0 && piece < PIECES) {
                to[piece] = used;
            }
        }

        void put(int kind, int value) {
            if (used < MAX_TOKENS) {
                sign[used] = kind;
                number[used] = value;
                used++;
            }
        }

        /** An E that divides by 0 is 0; a COND is 1 or 0. */
        int work(int piece, int[] vars) {
            int top = 0;
            broken = false;
            if (piece < 0 || piece >= PIECES) {
                return 0;
            }
            for (int i = from[piece]; i < to[piece] && i < MAX_TOKENS; i++) {
                int kind = sign[i];
                if (kind == T_NOT && top > 0) {
                    stack[top - 1] = 1 - stack[top - 1];
                } else if (kind == T_INT && top < STACK) {
                    stack[top] = number[i];
                    top++;
                } else if (kind >= T_YEAR && kind - T_YEAR < vars.length && top < STACK) {
                    stack[top] = vars[kind - T_YEAR];
                    top++;
                } else if (top > 1) {
                    top--;
                    stack[top - 1] = joined(kind, stack[top - 1], stack[top]);
                }
            }
            return broken || top < 1 ? 0 : stack[top - 1];
        }

        private int joined(int kind, int a, int b) {
            switch (kind) {
                case T_PLUS: return a + b;
                case T_MINUS: return a - b;
                case T_TIMES: return a * b;
                case T_AND: return a & b;
                case T_OR: return a | b;
                case T_OVER:
                    if (b == 0) {
                        broken = true;
                        return 0;
                    }
                    return a / b;
                default: return compared(kind, a, b);
            }
        }

        /** A division by 0 ends with its LIT. */
        private int compared(int kind, int a, int b) {
            boolean holds = false;
            switch (kind) {
                case T_SAME: holds = a == b; break;
                case T_OTHER: holds = a != b; break;
                case T_BELOW: holds = a < b; break;
                case T_UP_TO: holds = a <= b; break;
                default: break;
            }
            holds = holds && !broken;
            broken = false;
            return holds ? 1 : 0;
        }
    }

    /** What a text tells. */
    private static final class Told {
        int near = USUAL_NEAR;
        int things = 0;
        final int[] east = new int[MAX_THINGS];
        final int[] north = new int[MAX_THINGS];
        final int[] age = new int[MAX_THINGS];
        final int[] stone = new int[MAX_THINGS];
        int doors = 0;
        final int[] doorsFrom = new int[MAX_THINGS];
        int hills = 0;
        final int[] hillFrom = new int[MAX_HILLS];
        final int[] hillTo = new int[MAX_HILLS];
        final int[] hillHeight = new int[MAX_HILLS];
        int places = 0;
        final int[] span = new int[MAX_PLACES];
        int rules = 0;
        final Code code = new Code();

        void forget() {
            near = USUAL_NEAR;
            things = 0;
            doors = 0;
            hills = 0;
            places = 0;
            rules = 0;
            Arrays.fill(doorsFrom, 0);
            code.forget();
        }

        void copy(Told other) {
            if (other == null) {
                return;
            }
            near = other.near;
            things = other.things;
            doors = other.doors;
            hills = other.hills;
            places = other.places;
            rules = other.rules;
            System.arraycopy(other.east, 0, east, 0, MAX_THINGS);
            System.arraycopy(other.north, 0, north, 0, MAX_THINGS);
            System.arraycopy(other.age, 0, age, 0, MAX_THINGS);
            System.arraycopy(other.stone, 0, stone, 0, MAX_THINGS);
            System.arraycopy(other.doorsFrom, 0, doorsFrom, 0, MAX_THINGS);
            System.arraycopy(other.hillFrom, 0, hillFrom, 0, MAX_HILLS);
            System.arraycopy(other.hillTo, 0, hillTo, 0, MAX_HILLS);
            System.arraycopy(other.hillHeight, 0, hillHeight, 0, MAX_HILLS);
            System.arraycopy(other.span, 0, span, 0, MAX_PLACES);
            code.copy(other.code);
        }

        boolean isTaken(int e, int n) {
            for (int i = 0; i < things; i++) {
                if (east[i] == e && north[i] == n) {
                    return true;
                }
            }
            return false;
        }

        int hillOver(int degree) {
            for (int i = hills - 1; i >= 0; i--) {
                boolean behindFirst = degree >= hillFrom[i];
                boolean aheadOfLast = degree <= hillTo[i];
                boolean over = hillFrom[i] <= hillTo[i] ? behindFirst && aheadOfLast : behindFirst || aheadOfLast;
                if (over) {
                    return hillHeight[i];
                }
            }
            return 0;
        }
    }

    /** The FACTS in their order. */
    private static final class Survey {
        int facts = 0;
        int finds = 0;
        final int[] kind = new int[MAX_FACTS];
        // The THING, or the FACT that is VOID.
        final int[] about = new int[MAX_FACTS];
        final int[] east = new int[MAX_FACTS];
        final int[] north = new int[MAX_FACTS];
        final int[] age = new int[MAX_FACTS];

        void forget() {
            facts = 0;
            finds = 0;
        }

        void copy(Survey other) {
            if (other == null) {
                return;
            }
            facts = other.facts;
            finds = other.finds;
            System.arraycopy(other.kind, 0, kind, 0, MAX_FACTS);
            System.arraycopy(other.about, 0, about, 0, MAX_FACTS);
            System.arraycopy(other.east, 0, east, 0, MAX_FACTS);
            System.arraycopy(other.north, 0, north, 0, MAX_FACTS);
            System.arraycopy(other.age, 0, age, 0, MAX_FACTS);
        }

        /** Answers the FACT's number; NONE, and nothing is noted, if there is no room. */
        int note(int what, int which, int e, int n, int years) {
            if (facts >= MAX_FACTS) {
                return NONE;
            }
            kind[facts] = what;
            about[facts] = which;
            east[facts] = e;
            north[facts] = n;
            age[facts] = years;
            facts++;
            return facts - 1;
        }
    }

    /** The THINGS as KNOWN by n, the LINES between them, and those LINES that were chosen. */
    private static final class Ground {
        int things = 0;
        final int[] east = new int[MAX_THINGS];
        final int[] north = new int[MAX_THINGS];
        final int[] age = new int[MAX_THINGS];
        final int[] stone = new int[MAX_THINGS];
        final boolean[] lost = new boolean[MAX_THINGS];
        private final boolean[] isVoid = new boolean[MAX_FACTS];
        final int[] traits = new int[VAR_TOTAL];
        int chosen = 0;
        final int[] number = new int[MAX_LINES];
        final int[] way = new int[MAX_LINES];

        void know(Told told, Survey survey, int n) {
            things = told.things;
            System.arraycopy(told.east, 0, east, 0, MAX_THINGS);
            System.arraycopy(told.north, 0, north, 0, MAX_THINGS);
            System.arraycopy(told.age, 0, age, 0, MAX_THINGS);
            System.arraycopy(told.stone, 0, stone, 0, MAX_THINGS);
            for (int i = 0; i < MAX_THINGS; i++) {
                lost[i] = false;
            }
            for (int i = 0; i < survey.facts; i++) {
                isVoid[i] = false;
                // A VOID is of a FACT ahead of it, so the flag that it sets has been put down already.
                if (i < n && survey.kind[i] == FACT_VOID && survey.about[i] < i) {
                    isVoid[survey.about[i]] = true;
                }
            }
            for (int i = 0; i < survey.facts; i++) {
                apply(survey, i, i < n && !isVoid[i]);
            }
        }

        private void apply(Survey survey, int fact, boolean holds) {
            int thing = survey.about[fact];
            int kind = survey.kind[fact];
            if (kind == FACT_VOID || thing < 0 || thing >= MAX_THINGS) {
                return;
            }
            if (kind == FACT_FOUND) {
                things = thing + 1;
                stone[thing] = 0;
                lost[thing] = !holds;
            } else if (!holds) {
                return;
            }
            if (kind == FACT_FOUND || kind == FACT_MOVED) {
                east[thing] = survey.east[fact];
                north[thing] = survey.north[fact];
            }
            if (kind == FACT_FOUND || kind == FACT_DATED) {
                age[thing] = survey.age[fact];
            }
            if (kind == FACT_GONE) {
                lost[thing] = true;
            }
        }

        boolean joins(int line) {
            if (line < 0 || line >= LINE_NUMBERS) {
                return false;
            }
            int first = line / MAX_THINGS;
            int second = line % MAX_THINGS;
            if (first >= things || second >= things || lost[first] || lost[second]) {
                return false;
            }
            return east[first] != east[second] || north[first] != north[second];
        }

        int bearingOf(int line) {
            int first = line / MAX_THINGS;
            int second = line % MAX_THINGS;
            return Compass.bearing(east[second] - east[first], north[second] - north[first]);
        }

        int joinedInAll() {
            int total = 0;
            for (int line = 0; line < LINE_NUMBERS; line++) {
                if (joins(line)) {
                    total++;
                }
            }
            return total;
        }

        void describe(Told told, int line) {
            int first = line / MAX_THINGS;
            int second = line % MAX_THINGS;
            int e = east[second] - east[first];
            int n = north[second] - north[first];
            traits[V_YEAR] = 0;
            traits[V_HEIGHT] = 0;
            traits[V_GAP] = Math.abs(age[second] - age[first]);
            traits[V_FAR] = Math.max(Math.abs(e), Math.abs(n));
            traits[V_STONES] = stone[first] + stone[second];
            traits[V_MEANT] = told.doorsFrom[first] >> second & 1;
            traits[V_BACK] = told.doorsFrom[second] >> first & 1;
            traits[V_OLD] = Math.min(age[first], age[second]);
            traits[V_DEGREE] = Compass.bearing(e, n);
        }

        /** With rule NONE: whether the LINE COUNTS. */
        boolean holds(Told told, int line, int rule) {
            if (rule == NONE && told.rules == 0) {
                return true;
            }
            describe(told, line);
            for (int i = 0; i < told.rules; i++) {
                if ((rule == NONE || rule == i) && told.code.work(MAX_PLACES + i, traits) != 0) {
                    return true;
                }
            }
            return false;
        }

        void choose(Told told, int rule) {
            chosen = 0;
            for (int line = 0; line < LINE_NUMBERS && chosen < MAX_LINES; line++) {
                if (joins(line) && holds(told, line, rule)) {
                    number[chosen] = line;
                    way[chosen] = bearingOf(line);
                    chosen++;
                }
            }
        }
    }

    /** The PLACES of the sky in a YEAR. */
    private static final class Sky {
        int places = 0;
        final int[] degree = new int[MAX_PLACES];
        private final int[] span = new int[MAX_PLACES];
        private final int[] vars = new int[VAR_TOTAL];

        int rising(Told told, int place, int year) {
            vars[V_YEAR] = year;
            vars[V_HEIGHT] = 0;
            int level = Math.floorMod(told.code.work(place, vars), CIRCLE);
            vars[V_HEIGHT] = told.hillOver(level);
            return Math.floorMod(told.code.work(place, vars), CIRCLE);
        }

        void watch(Told told, int year) {
            places = told.places;
            for (int place = 0; place < places; place++) {
                degree[place] = rising(told, place, year);
                span[place] = told.span[place];
            }
        }

        /** The PLACES, as bits, that a LINE of a DEGREE hits. */
        int struck(int way, int near, boolean sure) {
            int bits = 0;
            for (int place = 0; place < places; place++) {
                int most = sure ? near - span[place] : near + span[place];
                if (Compass.apart(way, degree[place]) <= most) {
                    bits |= 1 << place;
                }
            }
            return bits;
        }
    }

    /** HITS in all turns at once. */
    private static final class Turns {
        private final int[] looking = new int[CIRCLE];
        final int[] struck = new int[CIRCLE];
        private final int[] hitsBy = new int[CIRCLE];
        final int[] least = new int[CIRCLE];
        private final int[] tally = new int[MAX_LINES + 2];
        private int edges = 0;
        private final int[] edge = new int[CIRCLE];
        private final int[] step = new int[CIRCLE];

        void gather(Ground ground) {
            Arrays.fill(looking, 0);
            for (int i = 0; i < ground.chosen; i++) {
                looking[ground.way[i]]++;
            }
        }

        void cover(Sky sky, int near) {
            for (int way = 0; way < CIRCLE; way++) {
                struck[way] = sky.struck(way, near, false);
            }
        }

        /** From one turn to the next only LINES at the edges of what is hit come in or go out. */
        void spin(int set) {
            int now = findEdges(set);
            for (int t = 0; t < CIRCLE; t++) {
                hitsBy[t] = now;
                for (int i = 0; i < edges; i++) {
                    int from = edge[i] - t;
                    now += step[i] * looking[from < 0 ? from + CIRCLE : from];
                }
            }
        }

        /** Answers the HITS without a turn. */
        private int findEdges(int set) {
            int now = 0;
            edges = 0;
            boolean here = (struck[0] & set) != 0;
            for (int way = 0; way < CIRCLE; way++) {
                boolean ahead = (struck[way + 1 < CIRCLE ? way + 1 : 0] & set) != 0;
                if (here) {
                    now += looking[way];
                }
                if (here != ahead) {
                    edge[edges] = way;
                    step[edges] = ahead ? 1 : -1;
                    edges++;
                }
                here = ahead;
            }
            return now;
        }

        int asManyAsUnturned() {
            int total = 0;
            for (int t = 0; t < CIRCLE; t++) {
                if (hitsBy[t] >= hitsBy[0]) {
                    total++;
                }
            }
            return total;
        }

        int sum() {
            int total = 0;
            for (int t = 0; t < CIRCLE; t++) {
                total += hitsBy[t];
            }
            return total;
        }

        /** Leaves in least how STRIKING each turn can be made. */
        void tellAfter(Ground ground, Sky sky) {
            Arrays.fill(least, CIRCLE);
            gather(ground);
            for (int near = 0; near <= LAST_NEAR_AFTER; near++) {
                cover(sky, near);
                for (int set = 1; set < 1 << sky.places; set++) {
                    spin(set);
                    lower();
                }
            }
        }

        private void lower() {
            Arrays.fill(tally, 0);
            for (int t = 0; t < CIRCLE; t++) {
                tally[hitsBy[t]]++;
            }
            for (int hits = MAX_LINES; hits >= 0; hits--) {
                tally[hits] += tally[hits + 1];
            }
            for (int t = 0; t < CIRCLE; t++) {
                least[t] = Math.min(least[t], tally[hitsBy[t]]);
            }
        }
    }

    /** The greatest number of pairs of THINGS that are joined, none of which shares a THING. */
    private static final class Pairing {
        private final int[] joined = new int[MAX_THINGS];
        // Eight sets of THINGS an element, four bits each: there are 16,384 sets.
        private final int[] best = new int[(1 << MAX_THINGS) / 8];

        void forget() {
            Arrays.fill(joined, 0);
        }

        void join(int first, int second) {
            if (first >= 0 && first < MAX_THINGS && second >= 0 && second < MAX_THINGS) {
                joined[first] |= 1 << second;
                joined[second] |= 1 << first;
            }
        }

        /** Sets come in the order of their highest THINGS, which stay alone or go with a lower one. */
        int most() {
            int used = squeeze();
            best[0] = 0;
            for (int thing = 0; thing < used; thing++) {
                for (int lower = 0; lower < 1 << thing; lower++) {
                    put(1 << thing | lower, bestWith(thing, lower));
                }
            }
            return bestOf((1 << used) - 1);
        }

        /** THINGS without a pair would double the sets for nothing: they go, the others close up. */
        private int squeeze() {
            int used = 0;
            for (int thing = 0; thing < MAX_THINGS; thing++) {
                if (joined[thing] != 0) {
                    rename(thing, used);
                    used++;
                }
            }
            return used;
        }

        private void rename(int from, int to) {
            if (from == to) {
                return;
            }
            joined[to] = joined[from];
            joined[from] = 0;
            for (int i = 0; i < MAX_THINGS; i++) {
                if ((joined[i] >> from & 1) != 0) {
                    joined[i] = joined[i] & ~(1 << from) | 1 << to;
                }
            }
        }

        private int bestWith(int thing, int lower) {
            int most = bestOf(lower);
            int open = joined[thing] & lower;
            for (int other = 0; other < thing; other++) {
                if ((open >> other & 1) != 0) {
                    most = Math.max(most, 1 + bestOf(lower & ~(1 << other)));
                }
            }
            return most;
        }

        private int bestOf(int set) {
            return best[set >> 3] >> ((set & 7) << 2) & 15;
        }

        private void put(int set, int pairs) {
            int shift = (set & 7) << 2;
            best[set >> 3] = best[set >> 3] & ~(15 << shift) | pairs << shift;
        }
    }

    /** MADE sites. */
    private static final class Maker {
        final int[] east = new int[MAX_THINGS];
        final int[] north = new int[MAX_THINGS];

        /** The sky has to be that of YEAR 0. */
        void make(int seed, int p, int m, Sky sky) {
            for (int i = 0; i < p && 2 * i + 1 < MAX_THINGS; i++) {
                int way = lot(CIRCLE, seed, 8 * i + 3);
                if (i < m && sky.places > 0) {
                    way = sky.degree[lot(sky.places, seed, 8 * i + 4)];
                }
                int length = 1 + lot(3, seed, 8 * i + 2);
                east[2 * i] = 300 + lot(400, seed, 8 * i);
                north[2 * i] = 300 + lot(400, seed, 8 * i + 1);
                east[2 * i + 1] = east[2 * i] + length * Compass.eastward(way);
                north[2 * i + 1] = north[2 * i] + length * Compass.northward(way);
            }
        }

        private static int lot(int m, int seed, int which) {
            if (m < 1) {
                return 0;
            }
            return (stir(stir(seed, 2), which) >>> 1) % m;
        }

        private static int stir(int h, int with) {
            int mixed = (h ^ with) * 1103515245 + 12345;
            return mixed ^ (mixed >>> 15);
        }

        int strikes(int p, int[] struck) {
            int total = 0;
            for (int first = 0; first < 2 * p && first < MAX_THINGS; first++) {
                for (int second = 0; second < 2 * p && second < MAX_THINGS; second++) {
                    int way = Compass.bearing(east[second] - east[first], north[second] - north[first]);
                    if (way != NONE && struck[way] != 0) {
                        total++;
                    }
                }
            }
            return total;
        }
    }
}
