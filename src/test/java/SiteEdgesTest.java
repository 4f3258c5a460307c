/** IV, SITES, BY CHANCE, MADE sites, LOTS, and promises 31 to 37: each sentence that names an edge. */
final class SiteEdgesTest {
    private static final String EVERYWHERE = "near 20;sky p span 20=0;sky q span 20=72;sky r span 20=144;"
        + "sky s span 20=216;sky t span 20=288;";

    public static void main(String[] args) {
        Sentences s = new Sentences();
        site(s);
        clear(s);
        pointing(s);
        chance(s);
        lots(s);
        madeAt(s);
        made(s);
        odds(s);
        s.end();
    }

    private static SkyStones sites(int... degrees) {
        SkyStones x = new SkyStones();
        for (int i = 0; i + 1 < degrees.length; i += 2) {
            x.site(degrees[i], degrees[i + 1]);
        }
        return x;
    }

    private static void site(Sentences s) {
        s.holds("31: its number, from 0 on, 6 at most", c -> {
            SkyStones x = new SkyStones();
            for (int i = 0; i < 6; i++) {
                c.due("site " + i, x.site(i, i), i);
            }
            c.due("SITES", x.count(7), 6);
        });
        s.refused("31: NONE: 6 are there", sites(1, 1, 2, 2, 3, 3, 4, 4, 5, 5, 6, 6), -1, x -> x.site(0, 0));
        s.holds("31: DEGREES 0 and 359", c -> {
            SkyStones x = new SkyStones();
            c.due("both 0", x.site(0, 0), 0);
            c.due("both 359", x.site(359, 359), 1);
            c.due("at 0", x.pointing(0, 0, false), 1);
            c.due("at 359", x.pointing(359, 0, true), 1);
        });
        for (int wrong : new int[] {-1, 360, Integer.MIN_VALUE, Integer.MAX_VALUE}) {
            s.refused("31: NONE: no such DEGREE " + wrong, sites(1, 1), -1, x -> x.site(wrong, 0));
            s.refused("31: NONE: no such WAY " + wrong, sites(1, 1), -1, x -> x.site(0, wrong));
        }
        s.holds("31: alike SITES are two", c -> c.due("pointing", sites(5, 5, 5, 5).pointing(5, 0, false), 2));
        s.holds("31: what was refused comes when there is room", c -> {
            SkyStones x = sites(1, 1, 2, 2, 3, 3, 4, 4, 5, 5, 6, 6);
            x.site(9, 9);
            x.clear();
            c.due("site", x.site(8, 8), 0);
            c.due("at 9", x.pointing(9, 0, false), 0);
        });
    }

    private static void clear(Sentences s) {
        s.holds("32: how many these were: 0", c -> c.due("clear", new SkyStones().clear(), 0));
        s.holds("32: how many these were: 6, and then 0", c -> {
            SkyStones x = sites(1, 1, 2, 2, 3, 3, 4, 4, 5, 5, 6, 6);
            c.due("clear", x.clear(), 6);
            c.due("SITES", x.count(7), 0);
            c.due("clear", x.clear(), 0);
        });
        s.holds("32: all are gone", c -> {
            SkyStones x = sites(1, 1);
            x.clear();
            c.due("pointing", x.pointing(1, 20, false), 0);
            c.due("by land", x.pointing(1, 20, true), 0);
            c.due("chance", x.chance(1, 20), 1);
        });
        s.holds("32: nothing else goes", c -> {
            SkyStones x = Check.told("stone a 1 1 1;sky p=1;");
            x.gone(0);
            x.hold(0);
            x.site(1, 1);
            x.clear();
            int[] due = {1, 0, 0, 1, 0, 2, 1, 0, 0, 1};
            for (int what = 0; what < due.length; what++) {
                c.due("count " + what, x.count(what), due[what]);
            }
        });
    }

    private static void pointing(Sentences s) {
        SkyStones x = sites(10, 190, 350, 170);
        s.holds("33: APART by d at most, alike", c -> c.due("pointing", x.pointing(10, 0, false), 1));
        s.holds("33: APART by d at most, upwards", c -> c.due("pointing", x.pointing(30, 20, false), 1));
        s.holds("33: APART by one more than d, upwards", c -> c.due("pointing", x.pointing(31, 20, false), 0));
        s.holds("33: APART by d at most, downwards", c -> c.due("pointing", x.pointing(330, 20, false), 1));
        s.holds("33: APART by one more than d, downwards", c -> c.due("pointing", x.pointing(329, 20, false), 0));
        s.holds("33: APART round 0", c -> c.due("pointing", x.pointing(0, 10, false), 2));
        s.holds("33: APART round 0, one less", c -> c.due("pointing", x.pointing(0, 9, false), 0));
        s.holds("33: BY LAND: the WAY its land lies", c -> {
            c.due("at 180", x.pointing(180, 10, true), 2);
            c.due("at 180, one less", x.pointing(180, 9, true), 0);
            c.due("at 0", x.pointing(0, 20, true), 0);
        });
        s.holds("33: without SITES 0", c -> c.due("pointing", new SkyStones().pointing(0, 20, false), 0));
        for (boolean land : new boolean[] {false, true}) {
            s.bounds("33: pointing, land " + land + ": the DEGREE", 0, 359, -1, v -> x.pointing(v, 0, land));
            s.bounds("33: pointing, land " + land + ": d", 0, 20, -1, v -> x.pointing(0, v, land));
        }
        s.holds("33: NONE without SITES too", c -> {
            c.due("no DEGREE", new SkyStones().pointing(360, 0, false), -1);
            c.due("no d", new SkyStones().pointing(0, 21, true), -1);
        });
    }

    private static void chance(Sentences s) {
        s.holds("34: 1 without SITES", c -> c.due("chance", new SkyStones().chance(359, 20), 1));
        s.holds("34: none POINTING: all ways", c -> {
            c.due("of 1", sites(0, 0).chance(21, 20), 360);
            c.due("of 6", sites(0, 0, 0, 0, 0, 0, 0, 0, 0, 0, 0, 0).chance(100, 0), 2176782336000000L);
        });
        s.holds("34: all POINTING: as many or more are all", c -> {
            c.due("of 1 within 0", sites(0, 0).chance(0, 0), 1);
            c.due("of 1 within 20", sites(0, 0).chance(340, 20), 41);
            c.due("of 2 within 20", sites(0, 0, 0, 0).chance(20, 20), 41 * 41);
            c.due("of 6 within 0", sites(0, 0, 0, 0, 0, 0, 0, 0, 0, 0, 0, 0).chance(0, 0), 1);
            c.due("of 6 within 20", sites(0, 0, 0, 0, 0, 0, 0, 0, 0, 0, 0, 0).chance(0, 20), 4750104241L);
        });
        s.holds("34: as many or more: one of two", c -> c.due("chance", sites(0, 0, 90, 0).chance(0, 0), 2 * 359 + 1));
        s.holds("34: as many or more: one of six", c -> {
            long none = 319L * 319 * 319 * 319 * 319 * 319;
            c.due("chance", sites(0, 0, 90, 0, 90, 0, 90, 0, 90, 0, 90, 0).chance(0, 20), 2176782336000000L - none);
        });
        s.holds("34: not BY LAND", c -> c.due("chance", sites(90, 0).chance(0, 0), 360));
        SkyStones x = sites(0, 0, 9, 9);
        s.bounds("34: chance: the DEGREE", 0, 359, -1, v -> x.chance(v, 0));
        s.bounds("34: chance: d", 0, 20, -1, v -> x.chance(0, v));
        s.holds("34: -1 without SITES too", c -> {
            c.due("no DEGREE", new SkyStones().chance(-1, 0), -1);
            c.due("no d", new SkyStones().chance(0, -1), -1);
        });
    }

    // ---- MADE sites

    /** LOT m as the document tells it, in 64 bits of which the lower 32 are kept. */
    private static int lot(int m, int seed, int which) {
        long h = seed & 0xFFFFFFFFL;
        for (long it : new long[] {2, which}) {
            long differ = (h | it) & ~(h & it);
            h = (differ * 1103515245L + 12345L) & 0xFFFFFFFFL;
            long moved = h / 32768;
            h = (h | moved) & ~(h & moved);
        }
        return (int) (h / 2 % m);
    }

    private static void lots(Sentences s) {
        int[] seeds = {0, 1, 2, 3, -1, -2, 32767, 32768, 65536, Integer.MIN_VALUE, Integer.MAX_VALUE};
        for (int seed : seeds) {
            s.holds("36: LOTS of the SEED " + seed + ": 32 bits that wrap, zeros come in", c -> {
                SkyStones x = new SkyStones();
                for (int i = 0; i < 7; i++) {
                    int east = 300 + lot(400, seed, 8 * i);
                    int north = 300 + lot(400, seed, 8 * i + 1);
                    int length = 1 + lot(3, seed, 8 * i + 2);
                    int way = lot(360, seed, 8 * i + 3);
                    c.due("east of " + i, x.madeAt(seed, 7, 0, 2 * i, 0), east);
                    c.due("north of " + i, x.madeAt(seed, 7, 0, 2 * i, 1), north);
                    c.due("east of the other", x.madeAt(seed, 7, 0, 2 * i + 1, 0), east + length * x.vector(way, 0));
                    c.due("north of the other", x.madeAt(seed, 7, 0, 2 * i + 1, 1), north + length * x.vector(way, 1));
                }
            });
        }
        s.holds("36: all of 300 .. 699, of lengths 1 .. 3", c -> {
            int least = 999;
            int most = 0;
            boolean[] lengths = new boolean[4];
            for (int seed = 0; seed < 500; seed++) {
                SkyStones x = new SkyStones();
                int east = x.madeAt(seed, 1, 0, 0, 0);
                int north = x.madeAt(seed, 1, 0, 0, 1);
                int far = Math.max(Math.abs(x.madeAt(seed, 1, 0, 1, 0) - east), Math.abs(x.madeAt(seed, 1, 0, 1, 1) - north));
                least = Math.min(least, Math.min(east, north));
                most = Math.max(most, Math.max(east, north));
                c.due("far by whole lengths", far % 45, 0);
                lengths[far / 45] = true;
            }
            c.due("least", least >= 300 && least < 310, true);
            c.due("most", most <= 699 && most > 690, true);
            c.due("lengths", !lengths[0] && lengths[1] && lengths[2] && lengths[3], true);
        });
    }

    private static void madeAt(Sentences s) {
        SkyStones x = Check.told("sky p=77;");
        s.bounds("36: madeAt: p", 1, 7, -10000, v -> x.madeAt(5, v, 0, 0, 0));
        s.bounds("36: madeAt: m", 0, 7, -10000, v -> x.madeAt(5, 7, v, 0, 0));
        s.bounds("36: madeAt: m, p 1", 0, 1, -10000, v -> x.madeAt(5, 1, v, 0, 0));
        s.bounds("36: madeAt: the THING", 0, 13, -10000, v -> x.madeAt(5, 7, 0, v, 0));
        s.bounds("36: madeAt: the THING, p 1", 0, 1, -10000, v -> x.madeAt(5, 1, 0, v, 0));
        s.bounds("36: madeAt: what", 0, 1, -10000, v -> x.madeAt(5, 1, 0, 0, v));
        s.holds("36: a pair below m: THE DEGREE of a PLACE", c -> {
            for (int m = 0; m <= 7; m++) {
                for (int i = 0; i < 7; i++) {
                    int way = x.degree(x.madeAt(9, 7, m, 2 * i + 1, 0) - x.madeAt(9, 7, m, 2 * i, 0),
                        x.madeAt(9, 7, m, 2 * i + 1, 1) - x.madeAt(9, 7, m, 2 * i, 1));
                    c.due("pair " + i + " of m " + m, way, i < m ? 77 : lot(360, 9, 8 * i + 3));
                }
            }
        });
        s.holds("36: a pair below m, without PLACES: LOT 360", c -> {
            SkyStones y = new SkyStones();
            for (int thing = 0; thing < 14; thing++) {
                c.due("east of " + thing, y.madeAt(9, 7, 7, thing, 0), y.madeAt(9, 7, 0, thing, 0));
                c.due("north of " + thing, y.madeAt(9, 7, 7, thing, 1), y.madeAt(9, 7, 0, thing, 1));
            }
        });
        s.holds("36: THE DEGREE in the YEAR 0, with the HEIGHT", c -> {
            SkyStones y = Check.told("hill 20 20 9;sky p=20+height+year;");
            int way = y.degree(y.madeAt(3, 1, 1, 1, 0) - y.madeAt(3, 1, 1, 0, 0), y.madeAt(3, 1, 1, 1, 1) - y.madeAt(3, 1, 1, 0, 1));
            c.due("DEGREE", way, 29);
        });
        s.holds("36: the PLACE by LOT (how many there are) of 8 * i + 4, five of them", c -> {
            SkyStones y = Check.told("sky p=10;sky q=20;sky r=30;sky s=40;sky t=50;");
            boolean[] all = new boolean[5];
            for (int seed = 0; seed < 12; seed++) {
                for (int i = 0; i < 7; i += 6) {
                    int place = lot(5, seed, 8 * i + 4);
                    all[place] = true;
                    int way = y.degree(y.madeAt(seed, 7, 7, 2 * i + 1, 0) - y.madeAt(seed, 7, 7, 2 * i, 0),
                        y.madeAt(seed, 7, 7, 2 * i + 1, 1) - y.madeAt(seed, 7, 7, 2 * i, 1));
                    c.due("pair " + i + " of " + seed, way, 10 + 10 * place);
                }
            }
            c.due("each PLACE", all[0] && all[1] && all[2] && all[3] && all[4], true);
        });
        s.holds("36: a site of fewer pairs is the first of a greater one", c -> {
            for (int p = 1; p <= 7; p++) {
                c.due("the last THING", x.madeAt(8, p, 0, 2 * p - 1, 0), x.madeAt(8, 7, 0, 2 * p - 1, 0));
            }
        });
    }

    private static void made(Sentences s) {
        s.holds("35: 0 without PLACES", c -> c.due("made", new SkyStones().made(1, 7, 7), 0));
        s.holds("35: of the 2 * p THINGS' LINES: all", c -> {
            for (int p = 1; p <= 7; p++) {
                c.due("p " + p, Check.told(EVERYWHERE).made(1, p, 0), 2 * p * (2 * p - 1));
            }
        });
        s.holds("35: if all COUNT: RULES are not asked", c -> {
            c.due("made", Check.told(EVERYWHERE + "count if 1==2;").made(1, 7, 0), 182);
        });
        s.holds("35: the text's THINGS, FACTS are not asked", c -> {
            SkyStones x = Check.told(EVERYWHERE + "stone a 1 1 1;");
            x.gone(0);
            c.due("made", x.made(1, 1, 0), 2);
        });
        s.holds("35: with the text's NEAR, one pair that is meant", c -> {
            for (int seed = 0; seed < 20; seed++) {
                c.due("NEAR 0", Check.told("near 0;sky p=77;").made(seed, 1, 1), 1);
                c.due("both ways", Check.told("near 0;sky p=77;sky q=77+180;").made(seed, 1, 1), 2);
            }
        });
        s.holds("35: MAYBE: with its SPAN", c -> {
            int way = lot(360, 6, 3);
            for (int off = 0; off <= 6; off++) {
                int hits = Check.told("near 2;sky p span 3=" + (way + off) + ";").made(6, 1, 0);
                c.due("off by " + off, hits, off <= 5 ? 1 : 0);
            }
        });
        s.holds("35: NEAR is that of the text", c -> {
            int way = lot(360, 6, 3);
            c.due("2 if not told", Check.told("sky p=" + (way + 2) + ";").made(6, 1, 0), 1);
            c.due("2 if not told, one more", Check.told("sky p=" + (way + 3) + ";").made(6, 1, 0), 0);
        });
        s.holds("35: YEAR 0", c -> {
            int way = lot(360, 6, 3);
            c.due("made", Check.told("near 0;sky p=" + way + "+year;").made(6, 1, 0), 1);
        });
        SkyStones x = Check.told("sky p=77;");
        s.bounds("35: made: p", 1, 7, -1, v -> x.made(5, v, 0));
        s.bounds("35: made: m", 0, 7, -1, v -> x.made(5, 7, v));
        s.bounds("35: made: m, p 1", 0, 1, -1, v -> x.made(5, 1, v));
        s.holds("35: any SEED", c -> {
            for (int seed : new int[] {0, -1, Integer.MIN_VALUE, Integer.MAX_VALUE}) {
                c.due("seed " + seed, x.made(seed, 7, 7) >= 7, true);
            }
        });
    }

    private static void odds(Sentences s) {
        SkyStones x = Check.told("near 3;sky p=77;");
        s.holds("37: of SEEDS seed, seed + 1, ..: k 1 is the SEED itself", c -> {
            for (int seed = 0; seed < 10; seed++) {
                int hits = x.made(seed, 3, 1);
                c.due("as many", x.odds(seed, 3, 1, 1, hits), 1);
                c.due("one more", x.odds(seed, 3, 1, 1, hits + 1), 0);
            }
        });
        for (int h = 1; h <= 8; h++) {
            int least = h;
            s.holds("37: of SEEDS 7, 8, ..: k 1 .. 200, with " + h + " or more", c -> {
                int due = 0;
                for (int k = 1; k <= 200; k++) {
                    due += x.made(6 + k, 5, 2) >= least ? 1 : 0;
                    c.due("k " + k, x.odds(7, 5, 2, k, least), due);
                }
            });
        }
        s.holds("37: YEAR 0", c -> {
            SkyStones y = Check.told("near 0;sky p=77+year*90;");
            c.due("as that of YEAR 0", y.odds(7, 5, 0, 200, 1), Check.told("near 0;sky p=77;").odds(7, 5, 0, 200, 1));
            c.due("there are some", y.odds(7, 5, 0, 200, 1) > 0, true);
        });
        s.holds("37: with h or more: h 0 and below are all", c -> {
            c.due("h 0", x.odds(0, 3, 1, 200, 0), 200);
            c.due("h -1", x.odds(0, 3, 1, 200, -1), 200);
            c.due("h least", x.odds(0, 3, 1, 200, Integer.MIN_VALUE), 200);
        });
        s.holds("37: with h or more: more than all LINES are none", c -> {
            c.due("h 31", x.odds(0, 3, 1, 200, 31), 0);
            c.due("h most", x.odds(0, 3, 1, 200, Integer.MAX_VALUE), 0);
        });
        s.holds("37: with h or more: all LINES", c -> c.due("h 182", Check.told(EVERYWHERE).odds(0, 7, 0, 9, 182), 9));
        s.holds("37: SEEDS wrap", c -> {
            int hits = x.made(Integer.MIN_VALUE, 3, 1);
            int last = x.made(Integer.MAX_VALUE, 3, 1);
            int both = Math.max(hits, last);
            c.due("as many as the greater", x.odds(Integer.MAX_VALUE, 3, 1, 2, both), (hits == both ? 1 : 0) + (last == both ? 1 : 0));
            c.due("as many as the second", x.odds(Integer.MAX_VALUE, 3, 1, 2, hits) >= 1, true);
        });
        s.bounds("37: odds: p", 1, 7, -1, v -> x.odds(5, v, 0, 1, 0));
        s.bounds("37: odds: m", 0, 7, -1, v -> x.odds(5, 7, v, 1, 0));
        s.bounds("37: odds: m, p 1", 0, 1, -1, v -> x.odds(5, 1, v, 1, 0));
        s.bounds("37: odds: k", 1, 200, -1, v -> x.odds(5, 1, 0, v, 0));
    }
}
