/** What can be asked of an object (SLOTS' insides aside) in some 100 calls, as one text. */
final class Seen {
    private Seen() {
    }

    static String of(SkyStones x) {
        StringBuilder s = new StringBuilder();
        for (int what = 0; what <= 9; what++) {
            s.append(x.count(what)).append(' ');
        }
        s.append("place ").append(x.place());
        int n = x.count(6);
        for (int thing = 0; thing < x.count(0); thing++) {
            s.append(" thing");
            for (int what = 0; what <= 4; what++) {
                s.append(' ').append(x.thing(thing, what, n));
            }
        }
        told(s, x, n);
        s.append(" sites ").append(x.pointing(0, 20, false)).append(' ').append(x.pointing(0, 20, true));
        return s.append(' ').append(x.chance(0, 20)).toString();
    }

    private static void told(StringBuilder s, SkyStones x, int n) {
        int all = (1 << x.count(3)) - 1;
        s.append(" lines ").append(x.lines(false, n)).append(' ').append(x.lines(true, n));
        s.append(" hills ").append(x.height(0)).append(' ').append(x.height(95)).append(' ').append(x.height(180));
        for (int place = 0; place < x.count(3); place++) {
            s.append(" place ").append(x.rise(place, 0)).append(' ').append(x.rise(place, 777));
        }
        for (int rule = 0; rule < x.count(4); rule++) {
            s.append(" rule ").append(x.story(rule, all, 0, n, 0)).append(' ').append(x.story(rule, all, 0, n, 1));
        }
        s.append(" hits ").append(x.hits(all, 0, 0, false, n)).append(' ').append(x.hits(all, 0, 0, true, n));
    }
}
