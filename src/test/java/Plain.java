import java.util.ArrayList;
import java.util.Arrays;
import java.util.HashMap;
import java.util.List;
import java.util.Map;
import java.util.regex.Matcher;
import java.util.regex.Pattern;

/**
 * The document once more, in the slowest and plainest way, with the Java library and exceptions:
 * ModelTest asks it and SkyStones the same and compares.
 */
final class Plain {
    interface E { int of(Map<String, Integer> vars); }
    interface Cond { boolean of(Map<String, Integer> vars); }
    record Thing(boolean stone, int east, int north, int age) { }
    record Hill(int from, int to, int height) { }
    record Place(int span, E e) { }
    record Fact(String kind, int about, int east, int north, int age) { }
    record Token(String text, int at) { }
    record State(Text text, List<Fact> facts) { }
    private static final class Fault extends RuntimeException {
        private static final long serialVersionUID = 1;
        final int kind;
        final int at;
        Fault(int kind, int at) { this.kind = kind; this.at = at; }
    }
    private static final class ByZero extends RuntimeException {
        private static final long serialVersionUID = 1;
    }

    /** What is told. */
    static final class Text {
        final List<Thing> things = new ArrayList<>();
        final List<int[]> doors = new ArrayList<>();
        final List<Hill> hills = new ArrayList<>();
        final List<Place> places = new ArrayList<>();
        final List<Cond> rules = new ArrayList<>();
        int near = 2;
    }

    private static final List<String> VARS =
        List.of("year", "height", "gap", "far", "stones", "meant", "back", "old", "degree");
    private static final List<String> WORDS = new ArrayList<>(List.of("stone", "hole", "door", "hill", "sky",
        "span", "near", "count", "if", "or", "and", "not"));
    static { WORDS.addAll(VARS); }

    /** Reads one text. */
    private static final class Parser {
        final List<Token> tokens = new ArrayList<>();
        final int end;
        int at = 0;
        final Text text = new Text();
        final Map<String, Integer> names = new HashMap<>();
        final List<int[]> late = new ArrayList<>();

        Parser(String all) {
            end = all.length();
            Matcher m = Pattern.compile("[a-z]+|[0-9]+|==|!=|<=|[^\\t\\n\\r ]", Pattern.DOTALL).matcher(all);
            while (m.find()) tokens.add(new Token(m.group(), m.start()));
        }
        String kind() {
            if (at >= tokens.size()) return "END";
            String t = tokens.get(at).text();
            if (t.matches("[a-z]+")) return WORDS.contains(t) ? t : t.length() <= 8 ? "NAME" : "BAD";
            if (t.matches("[0-9]+")) return t.length() <= 4 ? "INT" : "BAD";
            return List.of(";", "=", "+", "-", "*", "/", "==", "!=", "<", "<=", "(", ")").contains(t) ? t : "BAD";
        }
        int here() { return at < tokens.size() ? tokens.get(at).at() : end; }
        Token take(String... any) {
            if (!Arrays.asList(any).contains(kind())) throw new Fault(1, here());
            if (at >= 400) throw new Fault(2, here());
            return tokens.get(at++);
        }
        void late(int kind, Token at) { late.add(new int[] {at.at(), kind}); }
        int number(Token t, int most) {
            int v = Integer.parseInt(t.text());
            if (v > most) late(5, t);
            return v;
        }
        void room(int there, int most) { if (there >= most) throw new Fault(2, here()); }
        void name(Token t, int number) {
            if (names.containsKey(t.text())) late(3, t);
            names.put(t.text(), number);
        }
        int thing(Token t) {
            Integer n = names.get(t.text());
            if (n == null || n < 0) { late(4, t); return -1; }
            return n;
        }

        Text all() {
            while (!kind().equals("END")) one();
            late.sort((p, q) -> p[0] != q[0] ? p[0] - q[0] : p[1] - q[1]);
            if (!late.isEmpty()) throw new Fault(late.get(0)[1], late.get(0)[0]);
            return text;
        }
        void one() {
            switch (kind()) {
                case "stone", "hole" -> {
                    room(text.things.size(), 14);
                    boolean stone = take("stone", "hole").text().equals("stone");
                    Token name = take("NAME"), e = take("INT"), n = take("INT"), a = take("INT");
                    take(";");
                    name(name, text.things.size());
                    int east = number(e, 999), north = number(n, 999);
                    for (Thing other : text.things) if (other.east() == east && other.north() == north) late(3, n);
                    text.things.add(new Thing(stone, east, north, number(a, 9999)));
                }
                case "door" -> {
                    room(text.doors.size(), 8);
                    take("door");
                    Token f = take("NAME"), t = take("NAME");
                    take(";");
                    int from = thing(f), to = thing(t);
                    if (from >= 0 && from == to) late(5, t);
                    text.doors.add(new int[] {from, to});
                }
                case "hill" -> {
                    room(text.hills.size(), 12);
                    take("hill");
                    Token a = take("INT"), b = take("INT"), h = take("INT");
                    take(";");
                    text.hills.add(new Hill(number(a, 359), number(b, 359), number(h, 20)));
                }
                case "sky" -> {
                    room(text.places.size(), 5);
                    take("sky");
                    name(take("NAME"), -1);
                    int span = 0;
                    if (kind().equals("span")) { take("span"); span = number(take("INT"), 20); }
                    take("=");
                    text.places.add(new Place(span, e(0)));
                    take(";");
                }
                case "near" -> { take("near"); text.near = number(take("INT"), 20); take(";"); }
                case "count" -> {
                    room(text.rules.size(), 6);
                    take("count"); take("if");
                    text.rules.add(cond());
                    take(";");
                }
                default -> throw new Fault(1, here());
            }
        }
        Cond cond() {
            Cond c = all2();
            while (kind().equals("or")) { take("or"); Cond l = c, r = all2(); c = v -> l.of(v) || r.of(v); }
            return c;
        }
        Cond all2() {
            Cond c = lit();
            while (kind().equals("and")) { take("and"); Cond l = c, r = lit(); c = v -> l.of(v) && r.of(v); }
            return c;
        }
        Cond lit() {
            if (kind().equals("not")) { take("not"); Cond c = lit(); return v -> !c.of(v); }
            E l = e(0);
            String op = take("==", "!=", "<", "<=").text();
            E r = e(0);
            return v -> {
                try {
                    int a = l.of(v), b = r.of(v);
                    return op.equals("==") ? a == b : op.equals("!=") ? a != b : op.equals("<") ? a < b : a <= b;
                } catch (ByZero z) { return false; }
            };
        }
        E e(int depth) {
            E x = part(depth);
            while (kind().equals("+") || kind().equals("-")) {
                boolean plus = take("+", "-").text().equals("+");
                E l = x, r = part(depth);
                x = v -> plus ? l.of(v) + r.of(v) : l.of(v) - r.of(v);
            }
            return x;
        }
        E part(int depth) {
            E x = unit(depth);
            while (kind().equals("*") || kind().equals("/")) {
                boolean times = take("*", "/").text().equals("*");
                E l = x, r = unit(depth);
                x = v -> {
                    int a = l.of(v), b = r.of(v);
                    if (times) return a * b;
                    if (b == 0) throw new ByZero();
                    return (int) ((long) a / b);
                };
            }
            return x;
        }
        E unit(int depth) {
            if (kind().equals("INT")) { int n = number(take("INT"), 9999); return v -> n; }
            if (VARS.contains(kind())) { String name = take(kind()).text(); return v -> v.getOrDefault(name, 0); }
            if (kind().equals("(")) {
                if (depth == 6) throw new Fault(2, here());
                take("(");
                E x = e(depth + 1);
                take(")");
                return x;
            }
            throw new Fault(1, here());
        }
    }

    String tape = "";
    int place = -1;
    Text text = new Text();
    List<Fact> facts = new ArrayList<>();
    final List<int[]> sites = new ArrayList<>();
    final State[] slots = new State[3];

    int feed(int... five) {
        if (tape.length() + 20 > 2000) return -1;
        for (int x : five) for (int s = 24; s >= 0; s -= 8) tape += (char) (x >>> s & 255);
        return tape.length();
    }
    int back(int n) {
        if (n < 0 || n > tape.length()) return -1;
        tape = tape.substring(0, tape.length() - n);
        return tape.length();
    }
    int read() {
        String all = tape;
        tape = "";
        place = -1;
        try {
            text = new Parser(all).all();
            facts = new ArrayList<>();
            return 0;
        } catch (Fault f) {
            place = f.at;
            return f.kind;
        }
    }

    // ---- FACTS
    int things() { return text.things.size() + (int) facts.stream().filter(f -> f.kind().equals("FOUND")).count(); }
    static boolean in(int x, int low, int high) { return low <= x && x <= high; }
    boolean knows(int n) { return in(n, 0, facts.size()); }
    int fact(Fact f) {
        if (facts.size() >= 60) return -1;
        facts.add(f);
        return facts.size() - 1;
    }
    int found(int e, int n, int a) {
        if (things() >= 14 || !in(e, 0, 999) || !in(n, 0, 999) || !in(a, 0, 9999)) return -1;
        int number = things();
        return fact(new Fact("FOUND", number, e, n, a)) < 0 ? -1 : number;
    }
    int move(int t, int e, int n) {
        boolean ok = in(t, 0, things() - 1) && in(e, 0, 999) && in(n, 0, 999);
        return ok ? fact(new Fact("MOVED", t, e, n, 0)) : -1;
    }
    int gone(int t) { return in(t, 0, things() - 1) ? fact(new Fact("GONE", t, 0, 0, 0)) : -1; }
    int date(int t, int a) {
        return in(t, 0, things() - 1) && in(a, 0, 9999) ? fact(new Fact("DATED", t, 0, 0, a)) : -1;
    }
    int annul(int f) {
        boolean ok = in(f, 0, facts.size() - 1) && !facts.get(f).kind().equals("VOID");
        return ok ? fact(new Fact("VOID", f, 0, 0, 0)) : -1;
    }
    boolean voided(int f, int n) {
        for (int i = 0; i < n; i++) if (facts.get(i).kind().equals("VOID") && facts.get(i).about() == f) return true;
        return false;
    }
    Fact last(String kind, int thing, int n) {
        for (int i = n - 1; i >= 0; i--) {
            Fact f = facts.get(i);
            if (f.kind().equals(kind) && f.about() == thing && !voided(i, n)) return f;
        }
        return null;
    }
    Fact finding(int thing) {
        for (Fact f : facts) if (f.kind().equals("FOUND") && f.about() == thing) return f;
        return null;
    }
    int thing(int t, int what, int n) {
        if (!in(t, 0, things() - 1) || !knows(n) || !in(what, 0, 4)) return -1;
        boolean isTold = t < text.things.size();
        Fact moved = last("MOVED", t, n), dated = last("DATED", t, n), found = finding(t);
        if (what == 0) return moved != null ? moved.east() : isTold ? text.things.get(t).east() : found.east();
        if (what == 1) return moved != null ? moved.north() : isTold ? text.things.get(t).north() : found.north();
        if (what == 2) return dated != null ? dated.age() : isTold ? text.things.get(t).age() : found.age();
        if (what == 3) return isTold && text.things.get(t).stone() ? 1 : 0;
        return last("GONE", t, n) != null || (!isTold && last("FOUND", t, n) == null) ? 1 : 0;
    }

    // ---- LINES
    int degree(int e, int n) {
        if (e == 0 && n == 0 || !in(e, -9999, 9999) || !in(n, -9999, 9999)) return -1;
        int a = Math.abs(e), b = Math.abs(n);
        int q = (int) Math.floor(45.0 * Math.min(a, b) / Math.max(a, b));
        if (e >= 0 && n > 0) return !(a > b) ? q : 90 - q;
        if (e > 0 && n <= 0) return !(b > a) ? 90 + q : 180 - q;
        if (e <= 0 && n < 0) return !(a > b) ? 180 + q : 270 - q;
        int d = !(b > a) ? 270 + q : 360 - q;
        return d == 360 ? 0 : d;
    }
    int[] vector(int d) {
        if (d <= 45) return new int[] {d, 45};
        if (d <= 90) return new int[] {45, 90 - d};
        if (d <= 135) return new int[] {45, 90 - d};
        if (d <= 180) return new int[] {180 - d, -45};
        if (d <= 225) return new int[] {180 - d, -45};
        if (d <= 270) return new int[] {-45, d - 270};
        if (d <= 315) return new int[] {-45, d - 270};
        return new int[] {d - 360, 45};
    }
    int vector(int d, int what) { return in(d, 0, 359) && in(what, 0, 1) ? vector(d)[what] : -100; }
    boolean isLine(int line, int n) {
        if (!in(line, 0, 195)) return false;
        int f = line / 14, s = line % 14;
        if (f == s || f >= things() || s >= things() || thing(f, 4, n) == 1 || thing(s, 4, n) == 1) return false;
        return thing(f, 0, n) != thing(s, 0, n) || thing(f, 1, n) != thing(s, 1, n);
    }
    int door(int from, int to) {
        for (int[] d : text.doors) if (d[0] == from && d[1] == to) return 1;
        return 0;
    }
    Map<String, Integer> vars(int line, int n) {
        int f = line / 14, s = line % 14;
        int e = thing(s, 0, n) - thing(f, 0, n), no = thing(s, 1, n) - thing(f, 1, n);
        Map<String, Integer> v = new HashMap<>();
        v.put("gap", Math.abs(thing(f, 2, n) - thing(s, 2, n)));
        v.put("far", Math.max(Math.abs(e), Math.abs(no)));
        v.put("stones", thing(f, 3, n) + thing(s, 3, n));
        v.put("meant", door(f, s));
        v.put("back", door(s, f));
        v.put("old", Math.min(thing(f, 2, n), thing(s, 2, n)));
        v.put("degree", degree(e, no));
        return v;
    }
    boolean counts(int line, int n) {
        if (text.rules.isEmpty()) return true;
        Map<String, Integer> v = vars(line, n);
        return text.rules.stream().anyMatch(r -> r.of(v));
    }
    int line(int line, int what, int n) {
        if (!knows(n) || !in(what, 0, 7) || !isLine(line, n)) return -1;
        if (what == 7) return counts(line, n) ? 1 : 0;
        return vars(line, n).get(List.of("degree", "gap", "far", "stones", "meant", "back", "old").get(what));
    }
    int lines(boolean counting, int n) {
        if (!knows(n)) return -1;
        int total = 0;
        for (int l = 0; l < 196; l++) if (isLine(l, n) && (!counting || counts(l, n))) total++;
        return total;
    }

    // ---- the sky
    int height(int d) {
        if (!in(d, 0, 359)) return -1;
        int h = 0;
        for (Hill hill : text.hills) {
            for (int x = hill.from(); ; x = (x + 1) % 360) {
                if (x == d) h = hill.height();
                if (x == hill.to()) break;
            }
        }
        return h;
    }
    int rise(int place, int year) {
        if (!in(place, 0, text.places.size() - 1) || !in(year, 0, 5000)) return -1;
        int h = 0, d = 0;
        for (int i = 0; i < 2; i++) {
            try {
                d = ((text.places.get(place).e().of(Map.of("year", year, "height", h)) % 360) + 360) % 360;
            } catch (ByZero z) { d = 0; }
            h = height(d);
        }
        return d;
    }
    static int apart(int a, int b) { return Math.min(((a - b) % 360 + 360) % 360, ((b - a) % 360 + 360) % 360); }
    boolean asked(int set, int year, int n) {
        return in(set, 0, (1 << text.places.size()) - 1) && in(year, 0, 5000) && knows(n);
    }
    int[] rises(int year) {
        int[] r = new int[text.places.size()];
        for (int p = 0; p < r.length; p++) r[p] = rise(p, year);
        return r;
    }
    boolean strikes(int degree, int set, int[] rises, int near, boolean sure) {
        for (int p = 0; p < rises.length; p++) {
            int span = text.places.get(p).span();
            if ((set >> p & 1) == 1 && apart(degree, rises[p]) <= (sure ? near - span : near + span)) return true;
        }
        return false;
    }
    int hit(int line, int place, int year, int n) {
        if (!in(place, 0, text.places.size() - 1) || !in(year, 0, 5000) || !knows(n) || !isLine(line, n)) return -1;
        int d = vars(line, n).get("degree");
        if (strikes(d, 1 << place, rises(year), text.near, true)) return 2;
        return strikes(d, 1 << place, rises(year), text.near, false) ? 1 : 0;
    }
    /** LINES that COUNT, or those of one RULE, with their DEGREES. */
    List<int[]> some(int rule, int n) {
        List<int[]> list = new ArrayList<>();
        for (int l = 0; l < 196; l++) {
            if (!isLine(l, n)) continue;
            boolean in = rule < 0 ? counts(l, n) : text.rules.get(rule).of(vars(l, n));
            if (in) list.add(new int[] {l, vars(l, n).get("degree")});
        }
        return list;
    }
    int hits(List<int[]> some, int set, int[] rises, int t, int near, boolean sure) {
        int total = 0;
        for (int[] l : some) if (strikes((l[1] + t) % 360, set, rises, near, sure)) total++;
        return total;
    }
    int hits(int set, int year, int t, boolean sure, int n) {
        if (!asked(set, year, n) || !in(t, 0, 359)) return -1;
        return hits(some(-1, n), set, rises(year), t, text.near, sure);
    }
    List<Integer> hitters(int set, int year, boolean sure, int n) {
        List<Integer> list = new ArrayList<>();
        for (int[] l : some(-1, n)) if (strikes(l[1], set, rises(year), text.near, sure)) list.add(l[0]);
        return list;
    }
    int hitAt(int set, int year, boolean sure, int n, int i) {
        if (!asked(set, year, n)) return -1;
        List<Integer> list = hitters(set, year, sure, n);
        return in(i, 0, list.size() - 1) ? list.get(i) : -1;
    }

    // ---- turns
    int[] byTurn(List<int[]> some, int set, int[] rises, int near) {
        int[] by = new int[360];
        for (int t = 0; t < 360; t++) by[t] = hits(some, set, rises, t, near, false);
        return by;
    }
    static int asMany(int[] by, int t) { return (int) Arrays.stream(by).filter(h -> h >= by[t]).count(); }
    int many(int set, int year, int n) {
        return asked(set, year, n) ? asMany(byTurn(some(-1, n), set, rises(year), text.near), 0) : -1;
    }
    int allHits(int set, int year, int n) {
        return asked(set, year, n) ? Arrays.stream(byTurn(some(-1, n), set, rises(year), text.near)).sum() : -1;
    }
    int alone(int set, int year, int n) {
        if (!asked(set, year, n)) return -1;
        boolean[][] by = new boolean[14][14];
        for (int l : hitters(set, year, false, n)) by[l / 14][l % 14] = by[l % 14][l / 14] = true;
        return alone(by, 0, 0, new HashMap<>());
    }
    private int alone(boolean[][] by, int from, int used, Map<Integer, Integer> known) {
        if (from == 14) return 0;
        Integer before = known.get(from << 14 | used);
        if (before != null) return before;
        int best = alone(by, from + 1, used, known);
        for (int other = from + 1; other < 14 && (used >> from & 1) == 0; other++) {
            if (by[from][other] && (used >> other & 1) == 0) {
                best = Math.max(best, 1 + alone(by, from + 1, used | 1 << other, known));
            }
        }
        known.put(from << 14 | used, best);
        return best;
    }
    int[] strikings(int year, int n) {
        int[] least = new int[360];
        Arrays.fill(least, 360);
        List<int[]> some = some(-1, n);
        int[] rises = rises(year);
        for (int near = 0; near <= 4; near++) {
            for (int set = 1; set < 1 << rises.length; set++) {
                int[] by = byTurn(some, set, rises, near);
                for (int t = 0; t < 360; t++) least[t] = Math.min(least[t], asMany(by, t));
            }
        }
        return least;
    }
    int striking(int year, int t, int n) {
        return in(year, 0, 5000) && in(t, 0, 359) && knows(n) ? strikings(year, n)[t] : -1;
    }
    int price(int year, int n) {
        if (!in(year, 0, 5000) || !knows(n)) return -1;
        int[] s = strikings(year, n);
        return (int) Arrays.stream(s).filter(x -> x <= s[0]).count();
    }

    // ---- stories
    int story(int rule, int set, int year, int n, int what) {
        if (!in(rule, 0, text.rules.size() - 1) || !asked(set, year, n) || !in(what, 0, 2)) return -1;
        List<int[]> some = some(rule, n);
        if (what == 0) return some.size();
        if (what == 1) return hits(some, set, rises(year), 0, text.near, false);
        return asMany(byTurn(some, set, rises(year), text.near), 0);
    }
    int otherwise(int set, int year, int n, int m) {
        if (!asked(set, year, n) || !knows(m)) return -1;
        List<Integer> list = hitters(set, year, false, n);
        list.removeAll(hitters(set, year, false, m));
        return list.size();
    }
    boolean years(int a, int s, int k) {
        return in(a, 0, 5000) && in(s, 1, 100) && in(k, 1, 200) && a + s * (k - 1) <= 5000;
    }
    int free(int set, int n, int a, int s, int k) {
        if (!years(a, s, k) || !asked(set, a, n)) return -1;
        List<int[]> some = some(-1, n);
        int best = a;
        for (int y = a; y <= a + s * (k - 1); y += s) {
            int now = hits(some, set, rises(y), 0, text.near, false);
            if (now > hits(some, set, rises(best), 0, text.near, false)) best = y;
        }
        return best;
    }
    int freer(int set, int n, int a, int s, int k, int year) {
        if (!years(a, s, k) || !asked(set, year, n)) return -1;
        List<int[]> some = some(-1, n);
        int told = hits(some, set, rises(year), 0, text.near, false), total = 0;
        for (int y = a; y <= a + s * (k - 1); y += s) {
            if (hits(some, set, rises(y), 0, text.near, false) >= told) total++;
        }
        return total;
    }
    int next(int set, int year, int n) {
        if (!asked(set, year, n)) return -1;
        List<Integer> all = hitters(set, year, false, n);
        int best = -2, most = -1;
        for (int t = 0; t < things(); t++) {
            if (thing(t, 4, n) == 1) continue;
            int left = 0;
            for (int l : all) if (l / 14 != t && l % 14 != t) left++;
            if (all.size() - left > most) { most = all.size() - left; best = t; }
        }
        return best;
    }

    // ---- SITES
    int site(int d, int w) {
        if (sites.size() >= 6 || !in(d, 0, 359) || !in(w, 0, 359)) return -1;
        sites.add(new int[] {d, w});
        return sites.size() - 1;
    }
    int clear() { int n = sites.size(); sites.clear(); return n; }
    int pointing(int degree, int d, boolean land) {
        if (!in(degree, 0, 359) || !in(d, 0, 20)) return -1;
        return (int) sites.stream().filter(s -> apart(s[land ? 1 : 0], degree) <= d).count();
    }
    long chance(int degree, int d) {
        int now = pointing(degree, d, false);
        if (now < 0) return -1;
        long close = 0;
        for (int x = 0; x < 360; x++) if (apart(x, degree) <= d) close++;
        return atLeast(sites.size(), now, close, 360 - close);
    }
    /** One draw after the other. */
    static long atLeast(int n, int k, long hit, long miss) {
        long[] ways = new long[n + 2];
        ways[0] = 1;
        for (int i = 0; i < n; i++) {
            for (int j = n; j >= 0; j--) ways[j] = ways[j] * miss + (j > 0 ? ways[j - 1] * hit : 0);
        }
        long total = 0;
        for (int j = k; j <= n; j++) total += ways[j];
        return total;
    }

    // ---- MADE sites
    static int lot(int m, int seed, int which) {
        int h = seed;
        for (int it : new int[] {2, which}) {
            h = (int) ((long) (h ^ it) * 1103515245L + 12345L);
            h = h ^ (h >>> 15);
        }
        return (h >>> 1) % m;
    }
    int[][] build(int seed, int p, int m) {
        int[][] at = new int[2 * p][];
        for (int i = 0; i < p; i++) {
            int e = 300 + lot(400, seed, 8 * i), n = 300 + lot(400, seed, 8 * i + 1);
            int length = 1 + lot(3, seed, 8 * i + 2), d = lot(360, seed, 8 * i + 3);
            if (i < m && !text.places.isEmpty()) d = rise(lot(text.places.size(), seed, 8 * i + 4), 0);
            at[2 * i] = new int[] {e, n};
            at[2 * i + 1] = new int[] {e + length * vector(d)[0], n + length * vector(d)[1]};
        }
        return at;
    }
    int made(int seed, int p, int m) {
        if (!in(p, 1, 7) || !in(m, 0, p)) return -1;
        int[][] at = build(seed, p, m);
        int[] rises = rises(0);
        int total = 0;
        for (int[] a : at) for (int[] b : at) {
            int d = degree(b[0] - a[0], b[1] - a[1]);
            if (d >= 0 && strikes(d, 31, rises, text.near, false)) total++;
        }
        return total;
    }
    int madeAt(int seed, int p, int m, int thing, int what) {
        boolean ok = in(p, 1, 7) && in(m, 0, p) && in(thing, 0, 2 * p - 1) && in(what, 0, 1);
        return ok ? build(seed, p, m)[thing][what] : -10000;
    }
    int odds(int seed, int p, int m, int k, int h) {
        if (!in(p, 1, 7) || !in(m, 0, p) || !in(k, 1, 200)) return -1;
        int total = 0;
        for (int i = 0; i < k; i++) if (made(seed + i, p, m) >= h) total++;
        return total;
    }

    // ---- RINGS
    int counts(int h, int m, int d, int round, int e) {
        if (!in(h, 1, 100) || !in(m, 1, 100) || !in(d, 1, 100) || !in(round, 1, 9999) || !in(e, 0, 99)) return -1;
        return Math.abs(h * d - round * m) <= e * m ? 1 : 0;
    }
    int anything(int h, int m, int d, int e, int n) {
        if (!in(h, 1, 100) || !in(m, 1, 20) || !in(d, 1, 20) || !in(e, 0, 9) || !in(n, 1, 2000)) return -1;
        int total = 0;
        for (int round = 1; round <= n; round++) {
            boolean any = false;
            for (int x = 1; x <= m; x++) for (int y = 1; y <= d; y++) any |= counts(h, x, y, round, e) == 1;
            if (any) total++;
        }
        return total;
    }
    int life(int year, int years, int r, int c) {
        if (!in(year, 0, 5000) || !in(years, 1, 90) || !in(r, 2, 60) || !in(c, 0, r - 1)) return -1;
        int total = 0;
        for (int k = 0; k * r + c < year + years; k++) if (k * r + c >= year) total++;
        return total;
    }
    long seen(int n, int k, int a, int b) {
        if (!in(n, 0, 12) || !in(k, 0, 13) || !in(b, 1, 9) || !in(a, 0, b)) return -1;
        return atLeast(n, k, a, b - a);
    }
    int say(int line, int year, int n) {
        if (!in(line, 0, 195) || !in(year, 0, 5000) || !knows(n)) return -1;
        if (!isLine(line, n)) return 0;
        if (!counts(line, n)) return 1;
        int all = (1 << text.places.size()) - 1;
        int d = vars(line, n).get("degree");
        if (!strikes(d, all, rises(year), text.near, false)) return 2;
        if (many(all, year, n) > 18) return 3;
        if (vars(line, n).get("meant") + vars(line, n).get("back") == 0) return 4;
        return strikes(d, all, rises(year), text.near, true) ? 6 : 5;
    }

    // ---- SLOTS
    int hold(int slot) {
        if (!in(slot, 0, 2)) return 0;
        slots[slot] = new State(text, new ArrayList<>(facts));
        return 1;
    }
    int again(int slot) {
        if (!in(slot, 0, 2) || slots[slot] == null) return 0;
        text = slots[slot].text();
        facts = new ArrayList<>(slots[slot].facts());
        return 1;
    }
    int count(int what) {
        return switch (what) {
            case 0 -> things();
            case 1 -> text.doors.size();
            case 2 -> text.hills.size();
            case 3 -> text.places.size();
            case 4 -> text.rules.size();
            case 5 -> text.near;
            case 6 -> facts.size();
            case 7 -> sites.size();
            case 8 -> tape.length();
            case 9 -> (int) Arrays.stream(slots).filter(s -> s != null).count();
            default -> -1;
        };
    }
}
