import java.math.BigInteger;

/** Boundary cases of promises 32 to 35: pouring by lots, images. */
public final class LotsBoundaryTest {
    private static final BigInteger MODULUS = BigInteger.valueOf(2147483647), FACTOR = BigInteger.valueOf(48271);

    /** JOY of one who is as glad as there is STEAM, behind eight minutes by a seed; 0 STEAM ahead. */
    private static int joyBy(int seed, int stones) {
        BigInteger lot = BigInteger.valueOf(seed).add(BigInteger.ONE);
        int joy = 0, steam = 0, hot = stones;
        for (int m = 0; m < 8; m++) {
            lot = lot.multiply(FACTOR).mod(MODULUS);
            int ladles = lot.mod(BigInteger.valueOf(4)).intValue();
            if (hot >= 20 * ladles) {
                hot -= 10 * ladles;
                steam = Math.min(99, steam + 3 * ladles);
            }
            joy += steam;
            steam = Math.max(0, steam - 1);
            hot = Math.max(0, hot - 2);
        }
        return joy;
    }

    private static SteamOnBench steamy(int stones) {
        SteamOnBench x = Edge.under("0", "999", "steam");
        x.bather(0, 0);
        x.fire(Edge.STONES, stones);
        return x;
    }

    private static void drawn() {
        Edge.edge(32, "BAD: SEED (0 .. 99999)", () -> {
            for (int seed : Edge.outside(0, 99999)) { Edge.same("drawn " + seed, x -> x.drawn(seed, 0), Edge.BAD); }
        });
        Edge.edge(32, "BAD: what", () -> {
            for (int what : Edge.outside(0, 1)) { Edge.same("drawn 0 " + what, x -> x.drawn(0, what), Edge.BAD); }
        });
        Edge.edge(32, "POURING by a SEED: the first, the last, and many between", () -> {
            SteamOnBench x = steamy(200);
            for (int seed : new int[] {0, 1, 2, 3, 44488, 44489, 44490, 99998, 99999}) {
                Edge.due("drawn " + seed, x.drawn(seed, 0), joyBy(seed, 200));
            }
            for (int seed = 7; seed < 99999; seed += 499) { Edge.due("drawn " + seed, x.drawn(seed, 0), joyBy(seed, 200)); }
        });
        Edge.edge(32, "LADLES are POURED, if they are any and can be", () -> {
            for (int stones : new int[] {0, 19, 20, 39, 40, 59, 60, 61, 75, 90, 100, 120}) {
                SteamOnBench x = steamy(stones);
                for (int seed = 0; seed < 30; seed++) { Edge.due("drawn " + seed, x.drawn(seed, 0), joyBy(seed, stones)); }
            }
        });
        Edge.edge(32, "STEAM (99 at most) by the pouring", () -> {
            SteamOnBench x = Edge.under("0", "999", "steam");
            x.bather(0, 0);
            x.fire(Edge.STEAM, 99);
            Edge.due("3 2 2 1 1 3 1 1", x.drawn(0, 0), 8 * 99);
        });
        Edge.edge(32, "JOY of all; who is IN (bits): no BATHERS, all six, who went", () -> {
            Edge.due("no JOY", Edge.fresh().drawn(5, 0), 0);
            Edge.due("none", Edge.fresh().drawn(5, 1), 0);
            SteamOnBench x = Edge.under("1", "58", "0");
            for (int b = 0; b < 6; b++) {
                x.bather(0, 0);
                x.put(b, Edge.JOY, 999);
            }
            Edge.due("all", x.drawn(5, 1), 63);
            Edge.due("JOY", x.drawn(5, 0), 5994);
            x.put(0, Edge.WARM, 50);
            x.put(1, Edge.WARM, 51);
            x.put(5, Edge.BENCH, 3);
            Edge.due("50 stays, 51 goes, one was OUT", x.drawn(5, 1), 29);
        });
        Edge.edge(32, "in thought: what is asked changes nothing", () -> {
            for (int what = 0; what < 2; what++) {
                int w = what;
                Edge.same("drawn 99999 " + w, x -> x.drawn(99999, w), Edge.furnished().drawn(99999, w));
            }
        });
        Edge.edge(32, "in thought MINUTE may pass 999", () -> {
            SteamOnBench x = Edge.under("0", "999", "999 < minute");
            x.bather(0, 0);
            x.fire(Edge.MINUTE, 999);
            Edge.due("1000 .. 1006", x.drawn(0, 0), 7);
        });
    }

    private static void odds() {
        Edge.edge(33, "NO: none such: SEED (0 .. 99999)", () -> {
            for (int seed : Edge.outside(0, 99999)) { Edge.same("odds " + seed, x -> x.odds(seed, 1, 0, 0), Edge.NO); }
        });
        Edge.edge(33, "NO: none such: so many (1 .. 40) seeds", () -> {
            for (int seeds : Edge.outside(1, 40)) { Edge.same("odds 0 " + seeds, x -> x.odds(0, seeds, 0, 0), Edge.NO); }
        });
        Edge.edge(33, "NO: none such: least (0 .. 9999)", () -> {
            for (int least : Edge.outside(0, 9999)) { Edge.same("odds 0 1 " + least, x -> x.odds(0, 1, least, 0), Edge.NO); }
        });
        Edge.edge(33, "NO: none such: part", () -> {
            for (int part : Edge.outside(0, 1)) { Edge.same("odds 0 1 0 " + part, x -> x.odds(0, 1, 0, part), Edge.NO); }
        });
        Edge.edge(33, "least 0: all; 9999: none; the joy itself, and 1 more", () -> {
            SteamOnBench x = steamy(200);
            int joy = joyBy(0, 200);
            int[] least = {0, joy, joy + 1, 9999};
            for (int i = 0; i < 4; i++) {
                Edge.due("above, " + least[i], x.odds(0, 1, least[i], 0), i < 2 ? 1 : 0);
                Edge.due("below, " + least[i], x.odds(0, 1, least[i], 1), 1);
            }
            Edge.due("of none of 40", x.odds(0, 40, 9999, 0), 0);
            Edge.due("of none of 40", x.odds(0, 40, 9999, 1), 1);
            Edge.due("of all 40", x.odds(0, 40, 0, 0), 1);
            Edge.due("of all 40", x.odds(0, 40, 0, 1), 1);
        });
        Edge.edge(33, "SEED and each 1 more: one, two, forty; in lowest terms", () -> {
            SteamOnBench x = steamy(200);
            for (int seeds : new int[] {1, 2, 39, 40}) {
                int enough = 0;
                for (int i = 0; i < seeds; i++) { enough += joyBy(500 + i, 200) >= 140 ? 1 : 0; }
                int common = BigInteger.valueOf(enough).gcd(BigInteger.valueOf(seeds)).intValue();
                Edge.due("above, of " + seeds, x.odds(500, seeds, 140, 0), enough / common);
                Edge.due("below, of " + seeds, x.odds(500, seeds, 140, 1), seeds / common);
            }
        });
        Edge.edge(33, "(they may pass 99999)", () -> {
            SteamOnBench x = steamy(200);
            int most = 0, least = 9999;
            for (int i = 0; i < 40; i++) {
                most = Math.max(most, joyBy(99999 + i, 200));
                least = Math.min(least, joyBy(99999 + i, 200));
            }
            int enough = 0;
            for (int i = 0; i < 40; i++) { enough += joyBy(99999 + i, 200) == most ? 1 : 0; }
            int common = BigInteger.valueOf(enough).gcd(BigInteger.valueOf(40)).intValue();
            Edge.due("as glad as can be", x.odds(99999, 40, most, 0), enough / common);
            Edge.due("as glad as can be", x.odds(99999, 40, most, 1), 40 / common);
            Edge.due("gladder", x.odds(99999, 40, most + 1, 0), 0);
            Edge.due("all", x.odds(99999, 40, least, 1), 1);
        });
        Edge.edge(33, "JOY of all: no BATHERS", () -> {
            Edge.due("least 0", Edge.fresh().odds(0, 40, 0, 0), 1);
            Edge.due("least 1", Edge.fresh().odds(0, 40, 1, 0), 0);
        });
        Edge.edge(33, "in thought: what is asked changes nothing", () -> {
            for (int part = 0; part < 2; part++) {
                int p = part;
                Edge.same("odds 99999 40 50 " + p, x -> x.odds(99999, 40, 50, p), Edge.furnished().odds(99999, 40, 50, p));
            }
        });
    }

    private static void images() {
        Edge.edge(34, "how many BATHERS: none, six", () -> {
            Edge.due("none", Edge.fresh().image(), 0);
            SteamOnBench x = Edge.crowded();
            Edge.due("six", x.image(), 6);
            Edge.due("again", x.image(), 6);
        });
        Edge.edge(34, "AN IMAGE is kept: the last one alone", () -> {
            SteamOnBench x = Edge.fresh();
            x.image();
            x.fire(Edge.WOOD, 7);
            x.bather(0, 0);
            x.image();
            x.fire(Edge.WOOD, 9);
            Edge.due("back", x.back(), 1);
            Edge.due("WOOD", x.hut(3), 7);
        });
        Edge.edge(35, "STATE: there is none", () -> {
            Edge.due("back", Edge.fresh().back(), Edge.STATE);
            SteamOnBench x = Edge.fresh();
            x.bather(13, 341);
            x.stoke();
            Edge.due("back", x.back(), Edge.STATE);
            Edge.due("BATHERS", x.count(0), 1);
            Edge.due("WOOD", x.hut(3), 4);
        });
        Edge.edge(35, "an IMAGE of no BATHERS: all are none", () -> {
            SteamOnBench x = Edge.fresh();
            x.image();
            for (int b = 0; b < 6; b++) { x.bather(59, 9990); }
            Edge.due("back", x.back(), 0);
            Edge.due("BATHERS", x.count(0), 0);
            Edge.due("told", x.told(0, 0), -5000);
            Edge.due("the number of the next", x.bather(11, 22), 0);
            int[] due = {2, 2, 0, 1, 1};
            for (int what = 0; what < 5; what++) { Edge.due("told", x.told(0, what), due[what]); }
        });
        Edge.edge(35, "BATHERS that came since are none: there is room again", () -> {
            SteamOnBench x = Edge.fresh();
            for (int b = 0; b < 5; b++) { x.bather(b, 0); }
            x.image();
            x.bather(5, 0);
            Edge.due("FULL", x.bather(0, 0), Edge.FULL);
            Edge.due("back", x.back(), 5);
            Edge.due("told", x.told(5, 0), -5000);
            Edge.due("bather", x.bather(27, 0), 5);
            Edge.due("its MORE", x.told(5, 4), 7);
        });
        Edge.edge(35, "an IMAGE of six", () -> {
            SteamOnBench x = Edge.crowded();
            x.image();
            int warm = x.told(5, 1);
            x.put(5, Edge.WARM, 777);
            Edge.due("back", x.back(), 6);
            Edge.due("WARM", x.told(5, 1), warm);
        });
        Edge.edge(35, "all that it keeps: each at its least and most", () -> {
            int[] most = {999, 999, 99, 99};
            SteamOnBench x = Edge.furnished();
            for (int turn = 0; turn < 2; turn++) {
                for (int what = 0; what < 4; what++) { x.fire(what, turn * most[what]); }
                for (int b = 0; b < 4; b++) {
                    x.put(b, Edge.BENCH, 3 * turn);
                    x.put(b, Edge.WARM, 999 * turn);
                    x.put(b, Edge.JOY, 999 * turn);
                }
                x.force(2 * turn);
                x.image();
                for (int what = 0; what < 4; what++) { x.fire(what, 42); }
                for (int b = 0; b < 4; b++) {
                    for (int what = 0; what < 3; what++) { x.put(b, what, 1); }
                }
                x.force(1);
                Edge.due("back", x.back(), 4);
                for (int what = 0; what < 4; what++) { Edge.due("hut " + what, x.hut(what), turn * most[what]); }
                for (int b = 0; b < 4; b++) {
                    for (int what = 0; what < 3; what++) {
                        Edge.due("told " + what, x.told(b, what), turn * (what == 0 ? 3 : 999));
                    }
                }
                Edge.due("THE LAW", x.count(4), 2 * turn);
            }
        });
        Edge.edge(35, "it keeps no TEXTS, no TAPE, no SHEETS, no KIND, no MORE", () -> {
            SteamOnBench x = Edge.fresh();
            x.bather(14, 0);
            x.image();
            Edge.text(x, "feels 1;bears 2;glad 3;");
            x.feed(3, 32, 32, 32, 0, 0);
            x.sheet(2, Edge.INTS, 7);
            Edge.due("back", x.back(), 1);
            Edge.due("TEXTS", x.count(3), 2);
            Edge.due("bytes", x.count(5), 3);
            Edge.due("cell", x.cell(2, 6, 1), 1);
            Edge.due("KIND", x.told(0, 3), 1);
            Edge.due("MORE", x.told(0, 4), 4);
            Edge.due("it can be forced", x.force(1), 0);
        });
        Edge.edge(35, "back by back: the IMAGE stays, minutes don't touch it", () -> {
            SteamOnBench x = Edge.furnished();
            x.image();
            int warm = x.told(0, 1), steam = x.hut(2), joy = x.count(2);
            for (int turn = 0; turn < 3; turn++) {
                x.minute();
                x.run(40, 0);
                Edge.due("back", x.back(), 4);
                Edge.due("WARM", x.told(0, 1), warm);
                Edge.due("STEAM", x.hut(2), steam);
                Edge.due("JOY", x.count(2), joy);
            }
        });
        Edge.edge(35, "MINUTE 999 is left behind", () -> {
            SteamOnBench x = Edge.fresh();
            x.image();
            x.fire(Edge.MINUTE, 999);
            Edge.due("minute", x.minute(), Edge.STATE);
            x.back();
            Edge.due("minute", x.minute(), 0);
        });
    }

    public static void main(String[] args) {
        drawn();
        odds();
        images();
        Edge.end();
    }
}
