/** Boundary cases of promises 12 to 18: pouring, stoking, the door, minutes. */
public final class MinuteBoundaryTest {
    private static void poured() {
        Edge.edge(12, "BAD: ladles (1 .. 3)", () -> {
            for (int ladles : Edge.outside(1, 3)) { Edge.same("pour " + ladles, x -> x.pour(ladles), Edge.BAD); }
        });
        for (int ladles = 1; ladles <= 3; ladles++) {
            int n = ladles;
            Edge.edge(12, "STATE: they can't be; just if STONES are 20 times as many or more: " + n, () -> {
                for (int stones : new int[] {0, 10 * n, 20 * n - 1}) {
                    Edge.same(() -> at(stones, 5), "pour " + n + " on " + stones, x -> x.pour(n), Edge.STATE);
                }
                SteamOnBench x = at(20 * n, 5);
                Edge.due("pour", x.pour(n), 5 + 3 * n);
                Edge.due("STONES", x.hut(1), 10 * n);
                Edge.due("STEAM", x.hut(2), 5 + 3 * n);
            });
            Edge.edge(12, "STEAM (99 at most): " + n, () -> {
                for (int steam : new int[] {99 - 3 * n - 1, 99 - 3 * n, 99 - 3 * n + 1, 98, 99}) {
                    SteamOnBench x = at(999, steam);
                    Edge.due("pour", x.pour(n), Math.min(99, steam + 3 * n));
                    Edge.due("STONES", x.hut(1), 999 - 10 * n);
                }
            });
        }
        Edge.edge(12, "of several REFUSALS the first one told: BAD ahead of STATE", () ->
            Edge.same(() -> at(0, 0), "pour 4", x -> x.pour(4), Edge.BAD));
        Edge.edge(12, "truly: nothing but STONES and STEAM", () -> {
            SteamOnBench x = at(200, 5);
            x.pour(2);
            Edge.due("MINUTE", x.hut(0), 2);
            Edge.due("WOOD", x.hut(3), 4);
            x.fire(Edge.STONES, 200);
            x.fire(Edge.STEAM, 5);
            Edge.due("WARM", x.told(0, 1), at(200, 5).told(0, 1));
            Edge.due("JOY", x.count(2), at(200, 5).count(2));
        });
    }

    /** The furnished hut by so many STONES, so much STEAM. */
    private static SteamOnBench at(int stones, int steam) {
        SteamOnBench x = Edge.furnished();
        x.fire(Edge.STONES, stones);
        x.fire(Edge.STEAM, steam);
        return x;
    }

    private static void stoked() {
        Edge.edge(13, "STATE: WOOD is 0", () -> {
            SteamOnBench y = Edge.fresh();
            y.fire(Edge.WOOD, 0);
            Edge.due("stoke", y.stoke(), Edge.STATE);
            Edge.same(() -> { SteamOnBench x = Edge.furnished(); x.fire(Edge.WOOD, 0); return x; }, "stoke", x -> x.stoke(),
                Edge.STATE);
        });
        Edge.edge(13, "WOOD 1 less: the last one; all of the first", () -> {
            SteamOnBench x = Edge.fresh();
            for (int log = 1; log <= 5; log++) {
                Edge.due("stoke", x.stoke(), 200 + 50 * log);
                Edge.due("WOOD", x.hut(3), 5 - log);
            }
            Edge.due("stoke", x.stoke(), Edge.STATE);
            Edge.due("STONES", x.hut(1), 450);
            x.fire(Edge.WOOD, 99);
            x.stoke();
            Edge.due("WOOD", x.hut(3), 98);
        });
        Edge.edge(13, "STONES 50 more (999 at most)", () -> {
            for (int stones : new int[] {0, 948, 949, 950, 998, 999}) {
                SteamOnBench x = Edge.fresh();
                x.fire(Edge.STONES, stones);
                Edge.due("stoke", x.stoke(), Math.min(999, stones + 50));
                Edge.due("STONES", x.hut(1), Math.min(999, stones + 50));
                Edge.due("WOOD", x.hut(3), 4);
            }
        });
    }

    private static void throughDoor() {
        Edge.edge(14, "-5: none such", () -> {
            for (int b : Edge.outside(0, 3)) { Edge.same("door " + b, x -> x.door(b, 0), Edge.NO_BATHER); }
        });
        Edge.edge(14, "-7: to (a BENCH, or OUT)", () -> {
            for (int to : Edge.outside(0, 3)) { Edge.same("door 0 " + to, x -> x.door(0, to), Edge.NOT_AS_TOLD); }
        });
        Edge.edge(14, "STATE: one is there", () -> {
            for (int b = 0; b < 4; b++) {
                int one = b;
                int to = Edge.furnished().told(one, 0);
                Edge.same("door " + one + " " + to, x -> x.door(one, to), Edge.STATE);
            }
        });
        Edge.edge(14, "of several REFUSALS the first one told: -5, -7", () ->
            Edge.same("door 4 4", x -> x.door(4, 4), Edge.NO_BATHER));
        Edge.edge(14, "if one was OUT, or is then, STEAM is 1 less; between BENCHES it isn't", () -> {
            for (int from = 0; from < 4; from++) {
                for (int to = 0; to < 4; to++) {
                    if (from == to) { continue; }
                    SteamOnBench x = Edge.fresh();
                    x.fire(Edge.STEAM, 9);
                    x.bather(0, from);
                    Edge.due("door", x.door(0, to), from);
                    Edge.due("BENCH", x.told(0, 0), to);
                    Edge.due("STEAM from " + from + " to " + to, x.hut(2), from == 3 || to == 3 ? 8 : 9);
                }
            }
        });
        Edge.edge(14, "STEAM 0 at least", () -> {
            SteamOnBench x = Edge.fresh();
            x.fire(Edge.STEAM, 1);
            x.bather(0, 0);
            int[] due = {0, 0, 0};
            for (int i = 0; i < 3; i++) {
                Edge.due("door", x.door(0, i == 1 ? 0 : 3), i == 1 ? 3 : 0);
                Edge.due("STEAM", x.hut(2), due[i]);
            }
        });
        Edge.edge(14, "one is there, by what the minute made", () -> {
            SteamOnBench x = Edge.under("9", "0", "0");
            x.bather(0, 2);
            x.minute();
            Edge.due("OUT already", x.door(0, 3), Edge.STATE);
            Edge.due("in again", x.door(0, 2), 3);
        });
    }

    private static void minutes() {
        Edge.edge(15, "STATE: MINUTE is 999", () -> {
            Edge.same(() -> { SteamOnBench x = Edge.furnished(); x.fire(Edge.MINUTE, 999); return x; }, "minute", x -> x.minute(),
                Edge.STATE);
            SteamOnBench x = Edge.fresh();
            x.fire(Edge.MINUTE, 998);
            Edge.due("the last one", x.minute(), 0);
            Edge.due("MINUTE", x.hut(0), 999);
            Edge.due("minute", x.minute(), Edge.STATE);
            Edge.due("MINUTE", x.hut(0), 999);
        });
        Edge.edge(15, "who goes OUT in it (bits): none, all six, the last one, not who was OUT", () -> {
            SteamOnBench x = Edge.under("0", "50", "0");
            Edge.due("no BATHERS", x.minute(), 0);
            for (int b = 0; b < 6; b++) { x.bather(0, 510); }
            Edge.due("all", x.minute(), 63);
            Edge.due("who was OUT", x.minute(), 0);
            x = Edge.under("0", "50", "0");
            for (int b = 0; b < 6; b++) { x.bather(0, b == 5 ? 512 : b == 2 ? 993 : 500); }
            Edge.due("the last one", x.minute(), 32);
        });
        Edge.edge(15, "if one is WARM by more than one BEARS then", () -> {
            SteamOnBench x = Edge.under("5", "50", "0");
            x.bather(0, 440);
            x.bather(0, 450);
            x.bather(0, 460);
            Edge.due("49, 50, 51", x.minute(), 4);
            x = Edge.under("0", "0", "0");
            x.bather(0, 0);
            x.bather(0, 10);
            Edge.due("0, 1 of 0", x.minute(), 2);
            x = Edge.under("9", "999", "0");
            x.bather(0, 9990);
            Edge.due("999 of 999", x.minute(), 0);
        });
        Edge.edge(15, "told behind that: BEARS by what one is WARM then", () -> {
            SteamOnBench x = Edge.under("10", "99 * (warm < 31)", "0");
            x.bather(0, 200);
            x.bather(0, 210);
            Edge.due("30, 31", x.minute(), 2);
        });
        Edge.edge(15, "both told ahead of both: FEELS, GLAD", () -> {
            SteamOnBench x = Edge.under("warm", "999", "warm");
            x.bather(0, 200);
            x.minute();
            Edge.due("WARM", x.told(0, 1), 40);
            Edge.due("JOY", x.told(0, 2), 20);
        });
        Edge.edge(15, "who is OUT is less WARM by 5 (0 at least)", () -> {
            SteamOnBench x = Edge.fresh();
            int[] warm = {0, 1, 4, 5, 6, 999};
            int[] due = {0, 0, 0, 0, 1, 994};
            for (int w : warm) { x.bather(59, 10 * w + 3); }
            Edge.due("minute", x.minute(), 0);
            for (int b = 0; b < 6; b++) {
                Edge.due("WARM " + warm[b], x.told(b, 1), due[b]);
                Edge.due("JOY", x.told(b, 2), 0);
            }
        });
        Edge.edge(15, "the bounds: WARM 999 at most, 0 at least", () -> {
            SteamOnBench x = Edge.under("99", "999", "0");
            x.bather(0, 9000);
            x.bather(0, 8990);
            x.minute();
            Edge.due("900 and 99", x.told(0, 1), 999);
            Edge.due("899 and 99", x.told(1, 1), 998);
            x.minute();
            Edge.due("999 and 99", x.told(0, 1), 999);
            x = Edge.under("0 - 99", "999", "0");
            x.bather(0, 990);
            x.bather(0, 1000);
            x.bather(0, 980);
            x.minute();
            Edge.due("99 less 99", x.told(0, 1), 0);
            Edge.due("100 less 99", x.told(1, 1), 1);
            Edge.due("98 less 99", x.told(2, 1), 0);
        });
        Edge.edge(15, "the bounds: JOY 999 at most, 0 at least", () -> {
            SteamOnBench x = Edge.under("0", "999", "99");
            for (int b = 0; b < 2; b++) {
                x.bather(0, 0);
                x.put(b, Edge.JOY, 899 + b);
            }
            x.minute();
            Edge.due("899 and 99", x.told(0, 2), 998);
            Edge.due("900 and 99", x.told(1, 2), 999);
            x.minute();
            Edge.due("998 and 99", x.told(0, 2), 999);
            x = Edge.under("0", "999", "0 - 99");
            for (int b = 0; b < 3; b++) {
                x.bather(0, 0);
                x.put(b, Edge.JOY, 98 + b);
            }
            x.minute();
            for (int b = 0; b < 3; b++) { Edge.due("less 99", x.told(b, 2), b == 2 ? 1 : 0); }
        });
        Edge.edge(15, "one is OUT, STEAM is 1 less: the next is told of it; (0 at least)", () -> {
            SteamOnBench x = Edge.under("steam", "40", "steam");
            for (int b = 0; b < 3; b++) { x.bather(0, b < 2 ? 410 : 0); }
            x.fire(Edge.STEAM, 1);
            Edge.due("minute", x.minute(), 3);
            Edge.due("of 1", x.told(0, 1), 42);
            Edge.due("of 0", x.told(1, 1), 41);
            Edge.due("of 0", x.told(2, 1), 0);
            Edge.due("STEAM", x.hut(2), 0);
        });
        Edge.edge(15, "as many are IN as then: who went OUT ahead is none of them", () -> {
            SteamOnBench x = Edge.under("0", "50", "0");
            x.bather(40, 0);
            x.bather(0, 510);
            x.bather(40, 0);
            x.minute();
            Edge.due("ahead of one's going", x.told(0, 2), 3);
            Edge.due("behind it", x.told(2, 2), 2);
        });
        Edge.edge(15, "Then STEAM is 1 less, STONES 2 less (0 at least each), MINUTE 1 more", () -> {
            int[][] ahead = {{0, 0}, {1, 1}, {2, 2}, {3, 99}, {999, 50}};
            int[][] behind = {{0, 0}, {0, 0}, {0, 1}, {1, 98}, {997, 49}};
            for (int i = 0; i < 5; i++) {
                SteamOnBench x = Edge.fresh();
                x.fire(Edge.STONES, ahead[i][0]);
                x.fire(Edge.STEAM, ahead[i][1]);
                x.minute();
                Edge.due("STONES", x.hut(1), behind[i][0]);
                Edge.due("STEAM", x.hut(2), behind[i][1]);
                Edge.due("MINUTE", x.hut(0), 1);
                Edge.due("WOOD", x.hut(3), 5);
            }
        });
        Edge.edge(15, "All else told as it is then: MINUTE, STONES ahead of their change", () -> {
            SteamOnBench x = Edge.under("minute", "999", "stones");
            x.fire(Edge.MINUTE, 4);
            x.fire(Edge.STONES, 9);
            x.bather(0, 0);
            x.minute();
            Edge.due("WARM", x.told(0, 1), 4);
            Edge.due("JOY", x.told(0, 2), 9);
        });
    }

    private static void runs() {
        Edge.edge(16, "BAD: n (0 .. 40)", () -> {
            for (int n : Edge.outside(0, 40)) { Edge.same("run " + n, x -> x.run(n, 0), Edge.BAD); }
        });
        Edge.edge(16, "BAD: what", () -> {
            for (int what : new int[] {-1, 4, 9, 14, 15, 16, 19, 24, 25, 26, 30, Integer.MIN_VALUE, Integer.MAX_VALUE}) {
                Edge.same("run 1 " + what, x -> x.run(1, what), Edge.BAD);
            }
        });
        Edge.edge(16, "BATHER what less 10, what less 20: none, all six", () -> {
            Edge.due("none", Edge.fresh().run(0, 10), Edge.BAD);
            Edge.due("none", Edge.fresh().run(0, 20), Edge.BAD);
            SteamOnBench x = Edge.fresh();
            for (int b = 0; b < 6; b++) {
                Edge.due("not yet", x.run(0, 10 + b), Edge.BAD);
                x.bather(0, 10 * b + 70);
                x.put(b, Edge.JOY, 90 + b);
                Edge.due("WARM", x.run(0, 10 + b), 7 + b);
                Edge.due("JOY", x.run(0, 20 + b), 90 + b);
            }
            Edge.due("past them", x.run(0, 16), Edge.BAD);
            Edge.due("past them", x.run(0, 26), Edge.BAD);
        });
        Edge.edge(16, "n MINUTES: 0 is now, 40 the most", () -> {
            SteamOnBench x = Edge.under("1", "999", "2");
            x.bather(0, 70);
            x.fire(Edge.STEAM, 41);
            int[] due = {1, 0, 200, 41, 7, 0};
            int[] last = {1, 80, 120, 1, 47, 80};
            int[] what = {0, 1, 2, 3, 10, 20};
            for (int i = 0; i < 6; i++) {
                Edge.due("run 0 " + what[i], x.run(0, what[i]), due[i]);
                Edge.due("run 40 " + what[i], x.run(40, what[i]), last[i]);
            }
        });
        Edge.edge(16, "in thought: what is asked changes nothing", () -> {
            for (int what : new int[] {0, 1, 2, 3, 10, 13, 20, 23}) {
                Edge.same("run 40 " + what, x -> x.run(40, what), Edge.furnished().run(40, what));
            }
        });
        Edge.edge(16, "in thought MINUTE may pass 999", () -> {
            SteamOnBench x = Edge.under("minute < 999", "999", "minute = 999");
            x.bather(0, 0);
            x.fire(Edge.MINUTE, 999);
            Edge.due("WARM", x.run(40, 10), 0);
            Edge.due("JOY", x.run(40, 20), 1);
            Edge.due("STONES", x.run(40, 2), 120);
            Edge.due("MINUTE", x.hut(0), 999);
        });
        Edge.edge(16, "as many MINUTES as truly", () -> {
            for (int what : new int[] {0, 1, 2, 3, 10, 11, 12, 13, 20, 21, 22, 23}) {
                SteamOnBench x = Edge.furnished();
                int thought = x.run(17, what);
                for (int m = 0; m < 17; m++) { x.minute(); }
                Edge.due("run 17 " + what, thought, x.run(0, what));
            }
        });
    }

    private static void stayed() {
        Edge.edge(17, "-5: none such", () -> {
            for (int b : Edge.outside(0, 3)) { Edge.same("leaves " + b, x -> x.leaves(b), Edge.NO_BATHER); }
            Edge.due("no BATHERS", Edge.fresh().leaves(0), Edge.NO_BATHER);
        });
        Edge.edge(17, "Behind how many MINUTES (0 .. 40): OUT already, the first, the last, just not", () -> {
            SteamOnBench x = Edge.under("1", "50", "0");
            x.bather(0, 3);
            x.bather(0, 500);
            x.bather(0, 110);
            x.bather(0, 100);
            Edge.due("OUT", x.leaves(0), 0);
            Edge.due("the first", x.leaves(1), 1);
            Edge.due("the fortieth", x.leaves(2), 40);
            Edge.due("not by then", x.leaves(3), -1);
        });
        Edge.edge(17, "in thought: what is asked changes nothing", () -> {
            for (int b = 0; b < 4; b++) {
                int one = b;
                Edge.same("leaves " + one, x -> x.leaves(one), Edge.furnished().leaves(one));
            }
        });
        Edge.edge(18, "For how many MINUTES (0 .. 40): not one, the last but one, all", () -> {
            SteamOnBench x = Edge.under("1", "50", "0");
            x.bather(0, 3);
            x.bather(0, 100);
            Edge.due("all", x.together(), 40);
            x.put(1, Edge.WARM, 11);
            Edge.due("the fortieth minute ends it", x.together(), 39);
            x.put(1, Edge.WARM, 49);
            Edge.due("one", x.together(), 1);
            x.put(1, Edge.WARM, 50);
            Edge.due("none", x.together(), 0);
        });
        Edge.edge(18, "who are IN now: none", () -> {
            Edge.due("no BATHERS", Edge.fresh().together(), 40);
            SteamOnBench x = Edge.fresh();
            for (int b = 0; b < 6; b++) { x.bather(0, 993); }
            Edge.due("all OUT", x.together(), 40);
        });
        Edge.edge(18, "the first of six who goes ends it", () -> {
            SteamOnBench x = Edge.under("1", "50", "0");
            for (int b = 0; b < 6; b++) { x.bather(0, 10 * (20 + 4 * b)); }
            Edge.due("40 and 11", x.together(), 10);
        });
        Edge.edge(18, "in thought: what is asked changes nothing", () ->
            Edge.same("together", x -> x.together(), Edge.furnished().together()));
        Edge.edge(18, "in thought MINUTE may pass 999", () -> {
            SteamOnBench x = Edge.under("minute = 1001", "0", "0");
            x.bather(0, 0);
            x.fire(Edge.MINUTE, 999);
            Edge.due("999, 1000", x.together(), 2);
            Edge.due("leaves", x.leaves(0), 3);
        });
    }

    public static void main(String[] args) {
        poured();
        stoked();
        throughDoor();
        minutes();
        runs();
        stayed();
        Edge.end();
    }
}
