import java.util.function.ToLongFunction;

/** Boundary cases of promises 25 to 31: told minutes. */
public final class ToldBoundaryTest {
    private interface Asked { int of(SteamOnBench x, int s, int b); }

    /** The refusals that all who ask of told minutes have in common, in their order. */
    private static void refusals(int promise, String name, Asked asked, boolean ofOne) {
        Edge.edge(promise, "BAD: SHEET, of " + name, () -> {
            for (int s : Edge.outside(0, 3)) { Edge.same(name + " " + s, x -> asked.of(x, s, 0), Edge.BAD); }
        });
        Edge.edge(promise, "-11 (nothing there), of " + name, () ->
            Edge.same(name + " of a missing one", x -> asked.of(x, 3, 0), Edge.NOTHING_THERE));
        Edge.edge(promise, "BAD: it tells more than 20, of " + name, () -> {
            for (int n : new int[] {21, 40}) {
                SteamOnBench x = Edge.furnished();
                x.sheet(3, Edge.SHORTS, n);
                Edge.due(name + " of " + n, asked.of(x, 3, 0), Edge.BAD);
            }
            SteamOnBench x = Edge.furnished();
            x.film(3, 0, 20);
            Edge.due(name + " of 20 is no refusal", asked.of(x, 3, 0) >= -1 ? 1 : 0, 1);
        });
        if (ofOne) {
            Edge.edge(promise, "-5: none such, of " + name, () -> {
                for (int b : Edge.outside(0, 3)) { Edge.same(name + " 0 " + b, x -> asked.of(x, 0, b), Edge.NO_BATHER); }
            });
        }
        Edge.edge(promise, "of several REFUSALS the first one told, of " + name, () -> {
            Edge.same("SHEET, b", x -> asked.of(x, 4, 4), Edge.BAD);
            Edge.same("-11, b", x -> asked.of(x, 3, 4), Edge.NOTHING_THERE);
            SteamOnBench x = Edge.furnished();
            x.sheet(3, Edge.INTS, 21);
            Edge.due("more than 20, b", asked.of(x, 3, 4), Edge.BAD);
        });
        Edge.edge(promise, "what is asked changes nothing, of " + name, () -> {
            for (int s = 0; s < 3; s++) {
                int row = s;
                Edge.same(name + " " + s, x -> asked.of(x, row, row), asked.of(Edge.furnished(), s, s));
            }
        });
    }

    private static void notAsTold(int promise, String name, int most, Asked asked) {
        Edge.edge(promise, "-7: what, sort, behind all others, of " + name, () -> {
            for (int what : Edge.outside(0, most)) {
                Edge.same(name + " what " + what, x -> asked.of(x, 0, what), Edge.NOT_AS_TOLD);
            }
        });
    }

    private static void last(int promise, String name, ToLongFunction<SteamOnBench> call, long want) {
        Edge.edge(promise, "of several REFUSALS the first one told, -7 the last, of " + name, () -> Edge.same(name, call, want));
    }

    private static void judged() {
        refusals(25, "judge", SteamOnBench::judge, true);
        Edge.edge(25, "the first number (from 0) that is otherwise: the first, the last of 20; -1: none", () -> {
            SteamOnBench x = Edge.under("2", "999", "0");
            x.bather(0, 100);
            x.sheet(0, Edge.SHORTS, 20);
            for (int i = 0; i < 20; i++) {
                Edge.due("judge", x.judge(0, 0), i);
                x.cell(0, i, 12 + 2 * i);
            }
            Edge.due("none", x.judge(0, 0), -1);
            x.cell(0, 19, 51);
            Edge.due("the last", x.judge(0, 0), 19);
            x.cell(0, 7, 25);
            Edge.due("two are otherwise", x.judge(0, 0), 7);
            x.cell(0, 0, 10);
            Edge.due("behind 0 MINUTES", x.judge(0, 0), 0);
        });
        Edge.edge(25, "a SHEET of none: -1", () -> {
            SteamOnBench x = Edge.fresh();
            x.bather(0, 0);
            for (int sort = 0; sort < 3; sort++) {
                x.sheet(0, sort, 0);
                Edge.due("judge", x.judge(0, 0), -1);
            }
        });
        Edge.edge(25, "-5 of a SHEET of none, too", () -> {
            SteamOnBench x = Edge.fresh();
            x.sheet(0, Edge.BYTES, 0);
            Edge.due("judge", x.judge(0, 0), Edge.NO_BATHER);
        });
        Edge.edge(25, "of bytes: WARM 127 can be told, 128 not", () -> {
            SteamOnBench x = Edge.under("1", "999", "0");
            x.bather(0, 1260);
            Edge.sheet(x, 0, Edge.BYTES, 127, 128);
            Edge.due("judge", x.judge(0, 0), 1);
            Edge.sheet(x, 0, Edge.SHORTS, 127, 128);
            Edge.due("judge", x.judge(0, 0), -1);
        });
        Edge.edge(25, "of ints: no bits are cut", () -> {
            SteamOnBench x = Edge.under("1", "999", "0");
            x.bather(0, 10);
            Edge.sheet(x, 0, Edge.INTS, 2 + 65536);
            Edge.due("judge", x.judge(0, 0), 0);
            Edge.sheet(x, 0, Edge.INTS, 2 + 256);
            Edge.due("judge", x.judge(0, 0), 0);
            Edge.sheet(x, 0, Edge.INTS, 2);
            Edge.due("judge", x.judge(0, 0), -1);
        });
        Edge.edge(25, "in thought MINUTE may pass 999", () -> {
            SteamOnBench x = Edge.under("minute = 1001", "999", "0");
            x.bather(0, 0);
            x.fire(Edge.MINUTE, 999);
            Edge.sheet(x, 0, Edge.BYTES, 0, 0, 1, 1);
            Edge.due("judge", x.judge(0, 0), -1);
        });
        Edge.edge(25, "all others, too, are warmer, and go OUT meanwhile", () -> {
            SteamOnBench x = Edge.under("steam", "50", "0");
            x.bather(0, 453);
            x.bather(0, 0);
            x.put(0, Edge.BENCH, 0);
            x.fire(Edge.STEAM, 9);
            Edge.sheet(x, 0, Edge.BYTES, 8, 15);
            Edge.due("8, 7: one STEAM for who went", x.judge(0, 1), -1);
        });
    }

    private static void kinds() {
        refusals(26, "kinds 0", (x, s, b) -> x.kinds(s, b, 0), true);
        refusals(26, "kinds 1", (x, s, b) -> x.kinds(s, b, 1), true);
        notAsTold(26, "kinds", 1, (x, s, sort) -> x.kinds(s, 0, sort));
        last(26, "kinds 4 4 2", x -> x.kinds(4, 4, 2), Edge.BAD);
        last(26, "kinds 3 4 2", x -> x.kinds(3, 4, 2), Edge.NOTHING_THERE);
        last(26, "kinds 0 4 2", x -> x.kinds(0, 4, 2), Edge.NO_BATHER);
        Edge.edge(26, "KINDS (bits 0 .. 5): none, all, each", () -> {
            SteamOnBench x = Edge.under("8", "999", "0");
            x.fire(Edge.STEAM, 10);
            x.bather(3, 0);
            x.sheet(0, Edge.BYTES, 0);
            Edge.due("all", x.kinds(0, 0, 0), 63);
            int[] warm = {9, 8, 4, 16, 1, 3};
            int[] due = {0, 3, 4, 8, 16, 32};
            for (int i = 0; i < 6; i++) {
                Edge.sheet(x, 0, Edge.BYTES, warm[i]);
                Edge.due("kinds of " + warm[i], x.kinds(0, 0, 0), due[i]);
            }
        });
        Edge.edge(26, "MORE (bits 0 .. 9): none, all, each", () -> {
            SteamOnBench x = Edge.under("more", "999", "0");
            x.bather(3, 0);
            x.sheet(0, Edge.BYTES, 0);
            Edge.due("all", x.kinds(0, 0, 1), 1023);
            for (int more = 0; more < 10; more++) {
                Edge.sheet(x, 0, Edge.BYTES, more);
                Edge.due("MORE of " + more, x.kinds(0, 0, 1), 1 << more);
            }
            Edge.sheet(x, 0, Edge.BYTES, 10);
            Edge.due("none", x.kinds(0, 0, 1), 0);
        });
        Edge.edge(26, "were they one's: of no other, with one's own MORE, KIND", () -> {
            SteamOnBench x = Edge.under("8", "999", "0");
            x.bather(54, 0);
            x.bather(52, 0);
            Edge.sheet(x, 0, Edge.BYTES, 2);
            Edge.due("the first's KIND by MORE 4", x.kinds(0, 0, 0), 0);
            Edge.due("the first's MORE", x.kinds(0, 0, 1), 4);
            Edge.due("the second's KIND by MORE 2", x.kinds(0, 1, 0), 48);
        });
    }

    private static void states() {
        for (int what = 0; what < 3; what++) {
            int w = what;
            refusals(27, "states " + w, (x, s, b) -> x.states(s, b, w), true);
        }
        notAsTold(27, "states", 2, (x, s, what) -> x.states(s, 0, what));
        last(27, "states 4 4 3", x -> x.states(4, 4, 3), Edge.BAD);
        last(27, "states 3 4 3", x -> x.states(3, 4, 3), Edge.NOTHING_THERE);
        last(27, "states 0 4 3", x -> x.states(0, 4, 3), Edge.NO_BATHER);
        Edge.edge(27, "BENCHES (bits 0 .. 3, OUT, too): none, all, each", () -> {
            SteamOnBench x = Edge.under("1 + bench", "999", "0");
            x.bather(0, 101);
            x.sheet(0, Edge.BYTES, 0);
            Edge.due("all", x.states(0, 0, 0), 15);
            int[] warm = {11, 12, 13, 5, 10};
            int[] due = {1, 2, 4, 8, 0};
            for (int i = 0; i < 5; i++) {
                Edge.sheet(x, 0, Edge.BYTES, warm[i]);
                Edge.due("BENCHES of " + warm[i], x.states(0, 0, 0), due[i]);
            }
        });
        Edge.edge(27, "were one there now (the door not told)", () -> {
            SteamOnBench x = Edge.under("steam", "999", "0");
            x.fire(Edge.STEAM, 9);
            x.bather(0, 103);
            Edge.sheet(x, 0, Edge.BYTES, 19);
            Edge.due("IN by all of STEAM", x.states(0, 0, 0), 7);
            x.bather(0, 0);
            x.put(0, Edge.BENCH, 0);
            Edge.sheet(x, 0, Edge.BYTES, 9);
            Edge.due("the other by all of it, too", x.states(0, 1, 0), 7);
        });
        Edge.edge(27, "WARM (0 .. 299): how many, the least; the first, the last, none, all", () -> {
            SteamOnBench x = Edge.under("1", "999", "0");
            x.bather(0, 9990);
            x.sheet(0, Edge.SHORTS, 0);
            Edge.due("all", x.states(0, 0, 1), 300);
            Edge.due("the least of all", x.states(0, 0, 2), 0);
            int[] warm = {0, 1, 2, 300, 301};
            int[] least = {-1, 0, 1, 299, -1};
            for (int i = 0; i < 5; i++) {
                Edge.sheet(x, 0, Edge.SHORTS, warm[i]);
                Edge.due("how many of " + warm[i], x.states(0, 0, 1), least[i] < 0 ? 0 : 1);
                Edge.due("the least of " + warm[i], x.states(0, 0, 2), least[i]);
            }
        });
        Edge.edge(27, "a -1 that is an answer comes behind the refusal of a number", () -> {
            SteamOnBench x = Edge.fresh();
            x.bather(0, 0);
            Edge.sheet(x, 0, Edge.SHORTS, 998);
            Edge.due("-1", x.states(0, 0, 2), -1);
            Edge.due("b", x.states(0, 1, 2), Edge.NO_BATHER);
            Edge.due("what", x.states(0, 0, 3), Edge.NOT_AS_TOLD);
            Edge.due("-1, of steams", x.steams(0, 0, 1), -1);
            Edge.due("b, of steams", x.steams(0, 1, 1), Edge.NO_BATHER);
            Edge.due("what, of steams", x.steams(0, 0, 2), Edge.NOT_AS_TOLD);
        });
        Edge.edge(27, "WARM by which it would: many of like ones by the bounds", () -> {
            SteamOnBench x = Edge.under("0 - 9", "999", "0");
            x.bather(0, 0);
            Edge.sheet(x, 0, Edge.SHORTS, 0);
            Edge.due("0 .. 9", x.states(0, 0, 1), 10);
            Edge.due("the least", x.states(0, 0, 2), 0);
            Edge.sheet(x, 0, Edge.SHORTS, 1, 0);
            Edge.due("10", x.states(0, 0, 1), 1);
            Edge.due("the least", x.states(0, 0, 2), 10);
        });
        Edge.edge(27, "WARM of who is OUT", () -> {
            SteamOnBench x = Edge.fresh();
            x.bather(0, 3);
            Edge.sheet(x, 0, Edge.SHORTS, 294);
            Edge.due("how many", x.states(0, 0, 1), 1);
            Edge.due("the least", x.states(0, 0, 2), 299);
            Edge.sheet(x, 0, Edge.SHORTS, 295);
            Edge.due("how many", x.states(0, 0, 1), 0);
            Edge.sheet(x, 0, Edge.SHORTS, 0);
            Edge.due("0 .. 5", x.states(0, 0, 1), 6);
        });
    }

    private static void steams() {
        refusals(28, "steams 0", (x, s, b) -> x.steams(s, b, 0), true);
        refusals(28, "steams 1", (x, s, b) -> x.steams(s, b, 1), true);
        notAsTold(28, "steams", 1, (x, s, what) -> x.steams(s, 0, what));
        last(28, "steams 4 4 2", x -> x.steams(4, 4, 2), Edge.BAD);
        last(28, "steams 3 4 2", x -> x.steams(3, 4, 2), Edge.NOTHING_THERE);
        last(28, "steams 0 4 2", x -> x.steams(0, 4, 2), Edge.NO_BATHER);
        Edge.edge(28, "STEAM (0 .. 99): the first, the last, none, all", () -> {
            SteamOnBench x = Edge.under("steam - 1", "999", "0");
            x.bather(0, 100);
            x.fire(Edge.STEAM, 50);
            x.sheet(0, Edge.SHORTS, 0);
            Edge.due("all", x.steams(0, 0, 0), 100);
            Edge.due("the least of all", x.steams(0, 0, 1), 0);
            int[] warm = {8, 9, 10, 108, 109};
            int[] least = {-1, 0, 1, 99, -1};
            for (int i = 0; i < 5; i++) {
                Edge.sheet(x, 0, Edge.SHORTS, warm[i]);
                Edge.due("how many of " + warm[i], x.steams(0, 0, 0), least[i] < 0 ? 0 : 1);
                Edge.due("the least of " + warm[i], x.steams(0, 0, 1), least[i]);
            }
            Edge.due("STEAM", x.hut(2), 50);
        });
        Edge.edge(28, "by the FAINTER's STEAM above 9: how many", () -> {
            SteamOnBench x = Edge.under("3", "999", "0");
            x.bather(30, 0);
            Edge.sheet(x, 0, Edge.SHORTS, 6);
            Edge.due("10 .. 99", x.steams(0, 0, 0), 90);
            Edge.due("the least", x.steams(0, 0, 1), 10);
            Edge.sheet(x, 0, Edge.SHORTS, 6, 9);
            Edge.due("10 alone", x.steams(0, 0, 0), 1);
            Edge.sheet(x, 0, Edge.SHORTS, 3);
            Edge.due("0 .. 9", x.steams(0, 0, 0), 10);
            Edge.due("the least", x.steams(0, 0, 1), 0);
        });
    }

    private static void whose() {
        refusals(29, "whose", (x, s, b) -> x.whose(s), false);
        Edge.edge(29, "BATHERS (bits): no BATHERS, none, all six, each", () -> {
            SteamOnBench x = Edge.under("1", "999", "0");
            x.sheet(1, Edge.INTS, 0);
            Edge.due("no BATHERS", x.whose(1), 0);
            for (int b = 0; b < 6; b++) { x.bather(0, 100 * b); }
            Edge.due("all", x.whose(1), 63);
            for (int b = 0; b < 6; b++) {
                Edge.sheet(x, 0, Edge.BYTES, 10 * b + 1, 10 * b + 2);
                Edge.due("whose", x.whose(0), 1 << b);
            }
            Edge.sheet(x, 0, Edge.BYTES, 2);
            Edge.due("none", x.whose(0), 0);
        });
        Edge.edge(29, "-11 and BAD also with no BATHERS", () -> {
            SteamOnBench x = Edge.fresh();
            Edge.due("whose", x.whose(0), Edge.NOTHING_THERE);
            x.sheet(0, Edge.INTS, 21);
            Edge.due("whose", x.whose(0), Edge.BAD);
        });
    }

    private static void laws() {
        refusals(30, "laws", SteamOnBench::laws, true);
        Edge.edge(30, "TEXTS (bits): one, none, all six, each", () -> {
            SteamOnBench x = Edge.fresh();
            x.bather(0, 0);
            x.sheet(1, Edge.INTS, 0);
            Edge.due("the one", x.laws(1, 0), 1);
            for (int t = 1; t < 6; t++) { Edge.text(x, "feels " + (t + 1) + ";bears 9;glad 0;"); }
            Edge.due("all", x.laws(1, 0), 63);
            for (int t = 0; t < 6; t++) {
                Edge.sheet(x, 0, Edge.BYTES, t + 1);
                Edge.due("laws", x.laws(0, 0), 1 << t);
            }
            Edge.sheet(x, 0, Edge.BYTES, 7);
            Edge.due("none", x.laws(0, 0), 0);
            Edge.due("THE LAW", x.count(4), 0);
        });
    }

    private static void filmed() {
        Edge.edge(31, "BAD: SHEET", () -> {
            for (int s : Edge.outside(0, 3)) { Edge.same("film " + s, x -> x.film(s, 0, 3), Edge.BAD); }
        });
        Edge.edge(31, "-5: none such", () -> {
            for (int b : Edge.outside(0, 3)) { Edge.same("film 0 " + b, x -> x.film(0, b, 3), Edge.NO_BATHER); }
        });
        Edge.edge(31, "-7: n (0 .. 20)", () -> {
            for (int n : Edge.outside(0, 20)) {
                for (int s = 0; s < 4; s++) {
                    int row = s;
                    Edge.same("film " + s + " 0 " + n, x -> x.film(row, 0, n), Edge.NOT_AS_TOLD);
                }
            }
        });
        Edge.edge(31, "of several REFUSALS the first one told: BAD, -5, -7", () -> {
            Edge.same("film 4 4 21", x -> x.film(4, 4, 21), Edge.BAD);
            Edge.same("film 0 4 21", x -> x.film(0, 4, 21), Edge.NO_BATHER);
        });
        Edge.edge(31, "n MINUTES (0 .. 20): 0 is a row of none, 20 the most", () -> {
            for (int n : new int[] {0, 1, 20}) {
                for (int s = 0; s < 4; s++) {
                    SteamOnBench x = Edge.furnished();
                    Edge.due("film", x.film(s, 1, n), n);
                    Edge.due("its size", Edge.sizeOf(x, s), n);
                    Edge.due("shorts", x.bathersBy(s, Edge.SHORTS, 0, 0), 0);
                    Edge.due("as it will be", x.judge(s, 1), -1);
                }
            }
        });
        Edge.edge(31, "behind 1, .., n MINUTES: not behind 0", () -> {
            SteamOnBench x = Edge.under("1", "12", "0");
            x.bather(0, 100);
            x.film(0, 0, 5);
            int[] due = {11, 12, 13, 8, 3};
            Edge.sheet(x, 1, Edge.SHORTS, due);
            Edge.due("as by hand", x.judge(1, 0), -1);
            Edge.due("as by hand", x.judge(0, 0), -1);
            for (int i = 0; i < 5; i++) {
                x.sheet(2, Edge.SHORTS, 1);
                x.copy(0, i, 2, 0, 1);
                x.put(0, Edge.BENCH, 3);
                x.put(0, Edge.WARM, due[i] + 5);
                Edge.due("number " + i, x.judge(2, 0), -1);
            }
        });
        Edge.edge(31, "shorts: WARM 999 is told whole", () -> {
            SteamOnBench x = Edge.under("99", "999", "0");
            x.bather(0, 9500);
            x.film(0, 0, 2);
            Edge.sheet(x, 1, Edge.INTS, 999, 999);
            Edge.due("999", x.judge(1, 0), -1);
            Edge.due("999", x.judge(0, 0), -1);
        });
        Edge.edge(31, "truly a SHEET, in thought the minutes", () -> {
            SteamOnBench x = Edge.furnished();
            SteamOnBench y = Edge.furnished();
            x.film(3, 0, 20);
            for (int what = 0; what < 6; what++) { Edge.due("count " + what, x.count(what), y.count(what)); }
            for (int what = 0; what < 4; what++) { Edge.due("hut " + what, x.hut(what), y.hut(what)); }
            for (int b = 0; b < 4; b++) {
                for (int what = 0; what < 8; what++) { Edge.due("told", x.told(b, what), y.told(b, what)); }
            }
        });
        Edge.edge(31, "a shorter film leaves nothing of a longer one", () -> {
            SteamOnBench x = Edge.furnished();
            x.film(0, 0, 20);
            x.film(0, 0, 2);
            Edge.due("its size", Edge.sizeOf(x, 0), 2);
            Edge.due("cell", x.cell(0, 2, 0), Edge.OUTSIDE);
        });
    }

    public static void main(String[] args) {
        judged();
        kinds();
        states();
        steams();
        whose();
        laws();
        filmed();
        Edge.end();
    }
}
