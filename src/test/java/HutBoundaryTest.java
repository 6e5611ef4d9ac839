/** Boundary cases of promises 1 to 5, 7, 9 to 11: the hut, the law, bathers and their kinds. */
public final class HutBoundaryTest {
    private static void newObject() {
        Edge.edge(1, "No BATHERS", () -> {
            SteamOnBench x = Edge.fresh();
            for (int what = 0; what < 3; what++) { Edge.due("count " + what, x.count(what), 0); }
            Edge.due("told", x.told(0, 0), -5000);
            Edge.due("taken", x.taken(0, 0), Edge.NOTHING_THERE);
            Edge.due("who is IN", x.run(0, 0), 0);
            Edge.due("benches", x.benches(1, 0), 0);
        });
        Edge.edge(1, "MINUTE 0 at first, STONES 200, STEAM 0, WOOD 5", () -> {
            SteamOnBench x = Edge.fresh();
            int[] first = {0, 200, 0, 5};
            for (int what = 0; what < 4; what++) { Edge.due("hut " + what, x.hut(what), first[what]); }
        });
        Edge.edge(1, "TEXT 0, at first, and THE LAW", () -> {
            SteamOnBench x = Edge.fresh();
            Edge.due("TEXTS", x.count(3), 1);
            Edge.due("THE LAW", x.count(4), 0);
            x.bather(0, 2);
            x.fire(Edge.STEAM, 7);
            Edge.due("feels 1 + bench + steam", x.asks(0, 0), 10);
            Edge.due("bears 60", x.asks(1, 0), 60);
            Edge.due("glad steam - 2", x.asks(2, 0), 5);
            x.fire(Edge.STEAM, 99);
            Edge.due("feels, the bound", x.asks(0, 0), 99);
            Edge.due("glad", x.asks(2, 0), 97);
            x.fire(Edge.STEAM, 0);
            Edge.due("glad", x.asks(2, 0), -2);
        });
        Edge.edge(1, "THE TAPE (empty at first)", () -> {
            SteamOnBench x = Edge.fresh();
            Edge.due("bytes", x.count(5), 0);
            Edge.due("text", x.text(), -100);
        });
        Edge.edge(1, "SHEETS missing (as all are at first)", () -> {
            SteamOnBench x = Edge.fresh();
            x.bather(0, 0);
            for (int s = 0; s < 4; s++) {
                Edge.due("cell", x.cell(s, 0, 0), Edge.NOTHING_THERE);
                Edge.due("judge", x.judge(s, 0), Edge.NOTHING_THERE);
            }
        });
        Edge.edge(1, "no IMAGE at first", () -> Edge.due("back", Edge.fresh().back(), Edge.STATE));
        Edge.edge(1, "an object shares nothing with another", () -> {
            SteamOnBench x = Edge.crowded();
            SteamOnBench y = Edge.fresh();
            x.minute();
            for (int what = 0; what < 6; what++) { Edge.due("count", y.count(what), what == 3 ? 1 : 0); }
            Edge.due("STONES", y.hut(1), 200);
            Edge.due("back", y.back(), Edge.STATE);
            Edge.due("cell", y.cell(0, 0, 0), Edge.NOTHING_THERE);
        });
    }

    private static void counted() {
        Edge.edge(2, "BAD: what", () -> {
            for (int what : Edge.outside(0, 5)) { Edge.same("count " + what, x -> x.count(what), Edge.BAD); }
        });
        Edge.edge(2, "what is asked changes nothing", () -> {
            for (int what = 0; what < 6; what++) {
                int w = what;
                Edge.same("count " + w, x -> x.count(w), Edge.furnished().count(w));
            }
        });
        Edge.edge(2, "0 BATHERS, 6 at most", () -> {
            SteamOnBench x = Edge.fresh();
            for (int b = 0; b < 6; b++) {
                Edge.due("count", x.count(0), b);
                x.bather(0, 0);
            }
            x.bather(0, 0);
            Edge.due("count", x.count(0), 6);
        });
        Edge.edge(2, "1 BATHERS that are IN: none, all", () -> {
            SteamOnBench x = Edge.fresh();
            for (int b = 0; b < 6; b++) { x.bather(0, 3); }
            Edge.due("none is IN", x.count(1), 0);
            for (int b = 0; b < 6; b++) {
                x.put(b, Edge.BENCH, b % 3);
                Edge.due("IN", x.count(1), b + 1);
            }
        });
        Edge.edge(2, "2 JOY of all, together: the most, of who is OUT, too", () -> {
            SteamOnBench x = Edge.fresh();
            for (int b = 0; b < 6; b++) {
                x.bather(0, b % 4);
                x.put(b, Edge.JOY, 999);
            }
            Edge.due("JOY", x.count(2), 5994);
        });
        Edge.edge(2, "3 TEXTS, 6 at most; 4 THE LAW, the last one", () -> {
            SteamOnBench x = sixTexts();
            Edge.due("TEXTS", x.count(3), 6);
            x.force(5);
            Edge.due("THE LAW", x.count(4), 5);
        });
        Edge.edge(2, "5 bytes of THE TAPE, 160 at most", () -> {
            SteamOnBench x = Edge.fresh();
            for (int i = 0; i < 32; i++) { x.feed(5, 1, 1, 1, 1, 1); }
            Edge.due("bytes", x.count(5), 160);
        });
    }

    private static SteamOnBench sixTexts() {
        SteamOnBench x = Edge.fresh();
        for (int t = 1; t < 6; t++) { Edge.due("text", Edge.text(x, "feels " + t + ";bears 9;glad 1;"), t); }
        return x;
    }

    private static void fired() {
        int[] most = {999, 999, 99, 99};
        String[] names = {"MINUTE (0 .. 999)", "STONES (0 .. 999)", "STEAM (0 .. 99)", "WOOD (0 .. 99)"};
        for (int what = 0; what < 4; what++) {
            int w = what;
            Edge.edge(3, names[w] + " becomes v: what it was", () -> {
                SteamOnBench x = Edge.fresh();
                int was = x.hut(w);
                for (int v : new int[] {0, 1, most[w] - 1, most[w], 0}) {
                    Edge.due("fire " + v, x.fire(w, v), was);
                    Edge.due("hut", x.hut(w), v);
                    was = v;
                }
                for (int other = 0; other < 4; other++) {
                    Edge.due("no other", x.hut(other), other == w ? 0 : Edge.fresh().hut(other));
                }
            });
            Edge.edge(3, "BAD: v of " + names[w], () -> {
                for (int v : Edge.outside(0, most[w])) { Edge.same("fire " + v, x -> x.fire(w, v), Edge.BAD); }
            });
        }
        Edge.edge(3, "BAD: what", () -> {
            for (int what : Edge.outside(0, 3)) { Edge.same("fire " + what, x -> x.fire(what, 0), Edge.BAD); }
        });
        Edge.edge(4, "BAD: what", () -> {
            for (int what : Edge.outside(0, 3)) { Edge.same("hut " + what, x -> x.hut(what), Edge.BAD); }
        });
        Edge.edge(4, "MINUTE, STONES, STEAM, WOOD: the least, the most", () -> {
            SteamOnBench x = Edge.fresh();
            for (int what = 0; what < 4; what++) {
                x.fire(what, most[what]);
                Edge.due("the most", x.hut(what), most[what]);
                x.fire(what, 0);
                Edge.due("the least", x.hut(what), 0);
            }
        });
    }

    private static int feedOne(SteamOnBench x, int n, int place, int v) {
        int[] b = {32, 32, 32, 32, 32};
        b[place] = v;
        return x.feed(n, b[0], b[1], b[2], b[3], b[4]);
    }

    private static SteamOnBench taped(int bytes) {
        SteamOnBench x = Edge.furnished();
        while (x.count(5) < bytes) { x.feed(1, 32, 0, 0, 0, 0); }
        return x;
    }

    private static void fed() {
        Edge.edge(5, "BAD: n (1 .. 5)", () -> {
            for (int n : Edge.outside(1, 5)) { Edge.same("feed " + n, x -> x.feed(n, 1, 1, 1, 1, 1), Edge.BAD); }
        });
        Edge.edge(5, "The first n come", () -> {
            for (int n = 1; n <= 5; n++) { Edge.due("feed " + n, Edge.fresh().feed(n, 1, 1, 1, 1, 1), n); }
        });
        Edge.edge(5, "behind THE TAPE's, one by one: five, in their order", () -> {
            String text = "feels 1+2;bears 34;glad 5;    ";
            SteamOnBench x = Edge.fresh();
            for (int i = 0; i < text.length(); i += 5) {
                int[] b = new int[5];
                for (int j = 0; j < 5; j++) { b[j] = text.charAt(i + j); }
                Edge.due("feed", x.feed(5, b[0], b[1], b[2], b[3], b[4]), i + 5);
            }
            Edge.due("text", x.text(), 1);
            x.force(1);
            x.bather(0, 0);
            int[] due = {3, 34, 5};
            for (int part = 0; part < 3; part++) { Edge.due("asks " + part, x.asks(part, 0), due[part]); }
        });
        for (int place = 0; place < 5; place++) {
            int p = place;
            Edge.edge(5, "BAD: any of the five (0 .. 255 each): " + p, () -> {
                for (int v : Edge.outside(0, 255)) {
                    Edge.same("of one that comes not", x -> feedOne(x, 1, p, v), Edge.BAD);
                    Edge.same("of all", x -> feedOne(x, 5, p, v), Edge.BAD);
                }
                Edge.due("0", feedOne(Edge.fresh(), 5, p, 0), 5);
                Edge.due("255", feedOne(Edge.fresh(), 5, p, 255), 5);
            });
        }
        Edge.edge(5, "FULL: they have not all room (none comes)", () -> {
            Edge.same(() -> taped(156), "five behind 156", x -> x.feed(5, 32, 32, 32, 32, 32), Edge.FULL);
            Edge.same(() -> taped(159), "two behind 159", x -> x.feed(2, 32, 32, 32, 32, 32), Edge.FULL);
            Edge.same(() -> taped(160), "one behind 160", x -> x.feed(1, 32, 32, 32, 32, 32), Edge.FULL);
        });
        Edge.edge(5, "THE TAPE (160 bytes at most): they have just room", () -> {
            Edge.due("five behind 155", taped(155).feed(5, 32, 32, 32, 32, 32), 160);
            Edge.due("one behind 159", taped(159).feed(1, 32, 32, 32, 32, 32), 160);
        });
        Edge.edge(5, "of several REFUSALS the first one told: BAD ahead of FULL", () -> {
            Edge.same(() -> taped(160), "n", x -> x.feed(6, 32, 32, 32, 32, 32), Edge.BAD);
            Edge.same(() -> taped(160), "the fifth", x -> x.feed(1, 32, 32, 32, 32, 256), Edge.BAD);
        });
    }

    private static void forced() {
        Edge.edge(7, "BAD: none such a TEXT", () -> {
            for (int t : Edge.outside(0, 2)) { Edge.same("force " + t, x -> x.force(t), Edge.BAD); }
            Edge.due("there is but one", Edge.fresh().force(1), Edge.BAD);
        });
        Edge.edge(7, "A TEXT is THE LAW: which was; the same one, the last one", () -> {
            SteamOnBench x = sixTexts();
            Edge.due("the same", x.force(0), 0);
            Edge.due("the last", x.force(5), 0);
            Edge.due("the same", x.force(5), 5);
            Edge.due("past it", x.force(6), Edge.BAD);
            Edge.due("back", x.force(0), 5);
        });
    }

    private static void came() {
        Edge.edge(9, "BAD: KIND, MORE", () -> {
            for (int kindMore : Edge.outside(0, 59)) {
                Edge.same("bather " + kindMore, x -> x.bather(kindMore, 0), Edge.BAD);
            }
        });
        Edge.edge(9, "BAD: WARM", () -> {
            for (int warmBench : new int[] {-1, -10, 10000, Integer.MIN_VALUE, Integer.MAX_VALUE}) {
                Edge.same("bather 0 " + warmBench, x -> x.bather(0, warmBench), Edge.BAD);
            }
        });
        Edge.edge(9, "BAD: BENCH", () -> {
            for (int bench = 4; bench < 10; bench++) {
                for (int warm : new int[] {0, 50, 999}) {
                    int warmBench = 10 * warm + bench;
                    Edge.same("bather 0 " + warmBench, x -> x.bather(0, warmBench), Edge.BAD);
                }
            }
        });
        Edge.edge(9, "the number; the least and the most of KIND, MORE, WARM, BENCH", () -> {
            SteamOnBench x = Edge.fresh();
            Edge.due("bather", x.bather(0, 0), 0);
            Edge.due("bather", x.bather(59, 9993), 1);
            int[] least = {0, 0, 0, 0, 0};
            int[] most = {3, 999, 0, 5, 9};
            for (int what = 0; what < 5; what++) {
                Edge.due("told 0 " + what, x.told(0, what), least[what]);
                Edge.due("told 1 " + what, x.told(1, what), most[what]);
            }
        });
        Edge.edge(9, "FULL (6 at most)", () -> {
            SteamOnBench x = Edge.fresh();
            for (int b = 0; b < 6; b++) { Edge.due("bather", x.bather(b, 0), b); }
            Edge.due("the seventh", x.bather(0, 0), Edge.FULL);
            Edge.same(Edge::crowded, "the seventh", y -> y.bather(0, 0), Edge.FULL);
        });
        Edge.edge(9, "of several REFUSALS the first one told: BAD ahead of FULL", () -> {
            Edge.same(Edge::crowded, "kind", y -> y.bather(60, 0), Edge.BAD);
            Edge.same(Edge::crowded, "bench", y -> y.bather(0, 4), Edge.BAD);
        });
        Edge.edge(9, "JOY 0 as one comes, also behind another that was there", () -> {
            SteamOnBench x = Edge.fresh();
            x.image();
            x.bather(0, 0);
            x.put(0, Edge.JOY, 77);
            x.back();
            x.bather(0, 0);
            Edge.due("JOY", x.told(0, 2), 0);
        });
        Edge.edge(9, "no door: STEAM stays", () -> {
            SteamOnBench x = Edge.fresh();
            x.fire(Edge.STEAM, 9);
            x.bather(0, 0);
            Edge.due("STEAM", x.hut(2), 9);
        });
    }

    private static void putThere() {
        Edge.edge(10, "-5: none such", () -> {
            for (int b : Edge.outside(0, 3)) { Edge.same("put " + b, x -> x.put(b, 0, 0), Edge.NO_BATHER); }
        });
        Edge.edge(10, "-7: what", () -> {
            for (int what : Edge.outside(0, 2)) { Edge.same("put " + what, x -> x.put(0, what, 0), Edge.NOT_AS_TOLD); }
        });
        Edge.edge(10, "of several REFUSALS the first one told: -5 ahead of -7", () -> {
            Edge.same("what", x -> x.put(4, 3, 0), Edge.NO_BATHER);
            Edge.same("v", x -> x.put(4, 0, 4), Edge.NO_BATHER);
        });
        int[] most = {3, 999, 999};
        String[] names = {"BENCH (0 .. 2; 3: OUT)", "WARM (0 .. 999)", "JOY (0 .. 999)"};
        for (int what = 0; what < 3; what++) {
            int w = what;
            Edge.edge(10, "-7: v of " + names[w], () -> {
                for (int v : Edge.outside(0, most[w])) {
                    Edge.same("put " + v, x -> x.put(0, w, v), Edge.NOT_AS_TOLD);
                }
            });
            Edge.edge(10, names[w] + " becomes v: what it was", () -> {
                SteamOnBench x = Edge.crowded();
                int was = x.told(5, w);
                for (int v : new int[] {0, 1, most[w] - 1, most[w], most[w], 0}) {
                    Edge.due("put " + v, x.put(5, w, v), was);
                    Edge.due("told", x.told(5, w), v);
                    was = v;
                }
            });
        }
        Edge.edge(10, "no door: STEAM stays", () -> {
            SteamOnBench x = Edge.furnished();
            int steam = x.hut(2);
            x.put(0, Edge.BENCH, 3);
            x.put(0, Edge.BENCH, 0);
            Edge.due("STEAM", x.hut(2), steam);
        });
    }

    private static void tellings() {
        Edge.edge(11, "-5000: none such", () -> {
            for (int b : Edge.outside(0, 3)) { Edge.same("told " + b, x -> x.told(b, 0), -5000); }
        });
        Edge.edge(11, "-7000: what", () -> {
            for (int what : Edge.outside(0, 7)) { Edge.same("told " + what, x -> x.told(0, what), -7000); }
        });
        Edge.edge(11, "of several REFUSALS the first one told: -5000 ahead of -7000", () ->
            Edge.same("told 4 8", x -> x.told(4, 8), -5000));
        Edge.edge(11, "5 .. 7 also of who is OUT", () -> {
            SteamOnBench x = Edge.under("7 + bench", "50", "5 + bench");
            x.bather(13, 3);
            Edge.due("FEELS", x.told(0, 5), 7);
            Edge.due("BEARS", x.told(0, 6), 80);
            Edge.due("GLAD", x.told(0, 7), 5);
        });
        Edge.edge(11, "what is asked changes nothing", () -> {
            for (int what = 0; what < 8; what++) {
                int w = what;
                Edge.same("told " + w, x -> x.told(2, w), Edge.furnished().told(2, w));
            }
        });
    }

    /** One alone in the hut. */
    private static SteamOnBench alone(SteamOnBench x, int kind, int more, int bench) {
        x.bather(10 * kind + more, bench);
        return x;
    }

    private static void kinds() {
        Edge.edge(11, "0 BATHER: that; that; that, by MORE 0 and 9 alike", () -> {
            for (int more : new int[] {0, 9}) {
                SteamOnBench x = alone(Edge.under("7", "61", "5"), 0, more, 2);
                Edge.due("FEELS", x.told(0, 5), 7);
                Edge.due("BEARS", x.told(0, 6), 61);
                Edge.due("GLAD", x.told(0, 7), 5);
            }
        });
        Edge.edge(11, "PROUD BEARS 10 times MORE more: MORE 0, 9", () -> {
            Edge.due("0", alone(Edge.under("0", "61", "0"), 1, 0, 0).told(0, 6), 61);
            Edge.due("9", alone(Edge.under("0", "61", "0"), 1, 9, 0).told(0, 6), 151);
        });
        Edge.edge(11, "the bound is that of the text: PROUD BEARS more than 999", () ->
            Edge.due("BEARS", alone(Edge.under("0", "1000", "0"), 1, 9, 0).told(0, 6), 1089));
        Edge.edge(11, "PROUD GLAD MORE more on BENCH 2, on no other, not OUT", () -> {
            int[] due = {5, 5, 9, 5};
            for (int bench = 0; bench < 4; bench++) {
                Edge.due("on " + bench, alone(Edge.under("0", "0", "5"), 1, 4, bench).told(0, 7), due[bench]);
            }
        });
        Edge.edge(11, "the bound is that of the text: PROUD GLAD more than 99", () ->
            Edge.due("GLAD", alone(Edge.under("0", "0", "100"), 1, 9, 2).told(0, 7), 108));
        Edge.edge(11, "CHILD FEELS half on BENCH 0, on no other, not OUT", () -> {
            int[] due = {4, 8, 8, 8};
            for (int bench = 0; bench < 4; bench++) {
                Edge.due("on " + bench, alone(Edge.under("8", "0", "0"), 2, 4, bench).told(0, 5), due[bench]);
            }
        });
        Edge.edge(11, "CHILD FEELS half (cut): odd, 1, 0, below 0", () -> {
            String[] feels = {"9", "1", "0", "0-1", "0-9"};
            int[] due = {4, 0, 0, 0, -4};
            for (int i = 0; i < 5; i++) {
                Edge.due("of " + feels[i], alone(Edge.under(feels[i], "0", "0"), 2, 0, 0).told(0, 5), due[i]);
            }
        });
        Edge.edge(11, "CHILD BEARS half (cut): odd, 1, 0, 999", () -> {
            String[] bears = {"61", "1", "0", "999"};
            int[] due = {30, 0, 0, 499};
            for (int i = 0; i < 4; i++) {
                Edge.due("of " + bears[i], alone(Edge.under("0", bears[i], "0"), 2, 0, 0).told(0, 6), due[i]);
            }
        });
        Edge.edge(11, "FAINTER FEELS twice, if STEAM is above 9", () -> {
            SteamOnBench x = alone(Edge.under("7", "0", "0"), 3, 0, 0);
            x.fire(Edge.STEAM, 9);
            Edge.due("9", x.told(0, 5), 7);
            x.fire(Edge.STEAM, 10);
            Edge.due("10", x.told(0, 5), 14);
            x.fire(Edge.STEAM, 99);
            Edge.due("99", x.told(0, 5), 14);
        });
        Edge.edge(11, "the bound is that of the text: FAINTER FEELS twice 99", () -> {
            SteamOnBench x = alone(Edge.under("9999", "0", "0"), 3, 0, 0);
            x.fire(Edge.STEAM, 10);
            Edge.due("FEELS", x.told(0, 5), 198);
        });
        Edge.edge(11, "FAINTER GLAD half (cut) of a PROUD's: odd, below 0, on BENCH 2, OUT", () -> {
            Edge.due("5 and 4", alone(Edge.under("0", "0", "5"), 3, 4, 2).told(0, 7), 4);
            Edge.due("5", alone(Edge.under("0", "0", "5"), 3, 4, 1).told(0, 7), 2);
            Edge.due("5, OUT", alone(Edge.under("0", "0", "5"), 3, 4, 3).told(0, 7), 2);
            Edge.due("-5", alone(Edge.under("0", "0", "0-5"), 3, 4, 1).told(0, 7), -2);
            Edge.due("-5 and 4", alone(Edge.under("0", "0", "0-5"), 3, 4, 2).told(0, 7), 0);
        });
        Edge.edge(11, "whatever isn't told is as of the KIND above: FAINTER BEARS as a PROUD", () ->
            Edge.due("BEARS", alone(Edge.under("0", "61", "0"), 3, 9, 0).told(0, 6), 151));
        Edge.edge(11, "TALKER FEELS MORE less than a CHILD: on BENCH 0, else, below 0", () -> {
            Edge.due("on 0", alone(Edge.under("9", "0", "0"), 4, 9, 0).told(0, 5), -5);
            Edge.due("on 1", alone(Edge.under("9", "0", "0"), 4, 9, 1).told(0, 5), 0);
            Edge.due("OUT", alone(Edge.under("9", "0", "0"), 4, 1, 3).told(0, 5), 8);
            Edge.due("past the text's bound", alone(Edge.under("0-99", "0", "0"), 4, 9, 1).told(0, 5), -108);
        });
        Edge.edge(11, "TALKER GLAD as much more as there are BATHERS IN: none, one, six", () -> {
            SteamOnBench x = alone(Edge.under("0", "0", "5"), 4, 9, 3);
            Edge.due("none", x.told(0, 7), 5);
            x.put(0, Edge.BENCH, 0);
            Edge.due("itself", x.told(0, 7), 6);
            for (int b = 1; b < 6; b++) { x.bather(0, 2); }
            Edge.due("six", x.told(0, 7), 11);
            x.put(0, Edge.BENCH, 3);
            Edge.due("five others", x.told(0, 7), 10);
        });
        Edge.edge(11, "whatever isn't told is as of the KIND above: TALKER BEARS as a CHILD", () ->
            Edge.due("BEARS", alone(Edge.under("0", "61", "0"), 4, 9, 2).told(0, 6), 30));
        Edge.edge(11, "STOKER FEELS MORE: 0, 9, whatever the text says", () -> {
            Edge.due("0", alone(Edge.under("99", "0", "0"), 5, 0, 2).told(0, 5), 0);
            Edge.due("9", alone(Edge.under("0-99", "0", "0"), 5, 9, 3).told(0, 5), 9);
        });
        Edge.edge(11, "STOKER GLAD 99, if STONES are above 300, else as a BATHER", () -> {
            SteamOnBench x = alone(Edge.under("0", "0", "0-5"), 5, 9, 2);
            x.fire(Edge.STONES, 300);
            Edge.due("300", x.told(0, 7), -5);
            x.fire(Edge.STONES, 301);
            Edge.due("301", x.told(0, 7), 99);
            x.fire(Edge.STONES, 0);
            Edge.due("0", x.told(0, 7), -5);
        });
        Edge.edge(11, "whatever isn't told is as of the KIND above: STOKER BEARS as a BATHER", () ->
            Edge.due("BEARS", alone(Edge.under("0", "61", "0"), 5, 9, 2).told(0, 6), 61));
    }

    public static void main(String[] args) {
        newObject();
        counted();
        fired();
        fed();
        forced();
        came();
        putThere();
        tellings();
        kinds();
        Edge.end();
    }
}
