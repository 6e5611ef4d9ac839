/** Boundary cases of promises 19 to 24: what is best. */
public final class BestBoundaryTest {
    /** Of a hut in which none grows warm: who is how glad. */
    private static SteamOnBench glad(String glad) { return Edge.under("0", "999", glad); }

    private static void poured() {
        Edge.edge(19, "BAD: n (1 .. 8)", () -> {
            for (int n : Edge.outside(1, 8)) { Edge.same("when " + n, x -> x.when(n, 0), Edge.BAD); }
        });
        Edge.edge(19, "BAD: what", () -> {
            for (int what : Edge.outside(0, 1)) { Edge.same("when 1 " + what, x -> x.when(1, what), Edge.BAD); }
        });
        Edge.edge(19, "what is asked changes nothing", () -> {
            for (int what = 0; what < 2; what++) {
                int w = what;
                Edge.same("when 8 " + w, x -> x.when(8, w), Edge.furnished().when(8, w));
            }
        });
        Edge.edge(19, "no BATHERS, all OUT: of like ones the least as bits", () -> {
            SteamOnBench x = Edge.fresh();
            Edge.due("when", x.when(8, 0), 0);
            Edge.due("JOY", x.when(8, 1), 0);
            x.bather(0, 3);
            x.put(0, Edge.JOY, 7);
            Edge.due("when", x.when(8, 0), 0);
            Edge.due("JOY", x.when(8, 1), 7);
        });
        Edge.edge(19, "bit 0 the first: one minute, eight minutes", () -> {
            SteamOnBench x = glad("steam");
            x.bather(0, 0);
            Edge.due("when", x.when(1, 0), 1);
            Edge.due("JOY", x.when(1, 1), 3);
            Edge.due("all eight", x.when(8, 0), 255);
            Edge.due("3 + 5 + 7 .. 17", x.when(8, 1), 80);
            x = glad("steam * (10 * (minute = 7) - 9)");
            x.bather(0, 0);
            x.put(0, Edge.JOY, 500);
            Edge.due("the last alone", x.when(8, 0), 128);
            Edge.due("JOY", x.when(8, 1), 503);
        });
        Edge.edge(19, "(if it can be then): STONES 19, 20, and when a log's worth is gone", () -> {
            SteamOnBench x = glad("steam");
            x.bather(0, 0);
            x.fire(Edge.STONES, 19);
            Edge.due("not at all", x.when(8, 0), 0);
            Edge.due("JOY", x.when(8, 1), 0);
            x.fire(Edge.STONES, 20);
            Edge.due("once", x.when(3, 0), 1);
            Edge.due("3 + 2 + 1", x.when(3, 1), 6);
            x.fire(Edge.STONES, 32);
            Edge.due("twice", x.when(3, 0), 3);
            Edge.due("3 + 5 + 4", x.when(3, 1), 12);
        });
        Edge.edge(19, "of like ones the least as bits: JOY is 999 already", () -> {
            SteamOnBench x = glad("steam + 1");
            x.bather(0, 0);
            x.put(0, Edge.JOY, 999);
            Edge.due("when", x.when(4, 0), 0);
            Edge.due("JOY", x.when(4, 1), 999);
            x.put(0, Edge.JOY, 995);
            Edge.due("996 .. 999", x.when(4, 0), 0);
            x.put(0, Edge.JOY, 994);
            Edge.due("the first of them is enough", x.when(4, 0), 1);
        });
        Edge.edge(19, "so that one goes OUT by it: none poured", () -> {
            SteamOnBench x = Edge.under("steam", "2", "1");
            x.bather(0, 0);
            Edge.due("when", x.when(3, 0), 0);
            Edge.due("JOY", x.when(3, 1), 3);
        });
    }

    private static void seated() {
        Edge.edge(20, "BAD: n (1 .. 10)", () -> {
            for (int n : Edge.outside(1, 10)) { Edge.same("benches " + n, x -> x.benches(n, 0), Edge.BAD); }
        });
        Edge.edge(20, "BAD: what", () -> {
            for (int what : Edge.outside(0, 1)) { Edge.same("benches 1 " + what, x -> x.benches(1, what), Edge.BAD); }
        });
        Edge.edge(20, "what is asked changes nothing", () -> {
            for (int what = 0; what < 2; what++) {
                int w = what;
                Edge.same("benches 10 " + w, x -> x.benches(10, w), Edge.furnished().benches(10, w));
            }
        });
        Edge.edge(20, "no BATHERS: 0", () -> {
            Edge.due("benches", Edge.fresh().benches(10, 0), 0);
            Edge.due("JOY", Edge.fresh().benches(10, 1), 0);
        });
        Edge.edge(20, "OUT: 0; all OUT", () -> {
            SteamOnBench x = glad("9");
            for (int b = 0; b < 6; b++) {
                x.bather(0, 3);
                x.put(b, Edge.JOY, 5);
            }
            Edge.due("benches", x.benches(10, 0), 0);
            Edge.due("JOY", x.benches(10, 1), 30);
        });
        Edge.edge(20, "1 more than the BENCH: one BATHER on each", () -> {
            for (int bench = 0; bench < 3; bench++) {
                SteamOnBench x = glad("bench = " + bench);
                x.bather(0, 1);
                Edge.due("benches", x.benches(1, 0), bench + 1);
                Edge.due("JOY", x.benches(10, 1), 10);
            }
        });
        Edge.edge(20, "by numbers (the first the highest): six, the first or the last alone IN", () -> {
            SteamOnBench x = glad("bench");
            for (int b = 0; b < 6; b++) { x.bather(0, 0); }
            Edge.due("all six", x.benches(1, 0), 333333);
            Edge.due("JOY", x.benches(1, 1), 12);
            for (int b = 1; b < 6; b++) { x.put(b, Edge.BENCH, 3); }
            Edge.due("the first", x.benches(1, 0), 300000);
            x.put(0, Edge.BENCH, 3);
            x.put(5, Edge.BENCH, 0);
            Edge.due("the last", x.benches(1, 0), 3);
        });
        Edge.edge(20, "as digits of all BATHERS: six, each on another BENCH; two of them OUT", () -> {
            SteamOnBench x = glad("bench = more");
            int[] more = {2, 0, 1, 1, 2, 0};
            for (int b = 0; b < 6; b++) { x.bather(more[b], 2 - more[b]); }
            Edge.due("each as one would", x.benches(1, 0), 312231);
            Edge.due("JOY", x.benches(1, 1), 6);
            x.put(1, Edge.BENCH, 3);
            x.put(4, Edge.BENCH, 3);
            Edge.due("two OUT", x.benches(1, 0), 302201);
            Edge.due("JOY", x.benches(10, 1), 40);
        });
        Edge.edge(20, "of like ones the first by digits", () -> {
            SteamOnBench x = glad("1");
            for (int b = 0; b < 6; b++) { x.bather(0, 2); }
            Edge.due("all alike", x.benches(1, 0), 111111);
            x = glad("0 - (bench = 0)");
            for (int b = 0; b < 3; b++) {
                x.bather(0, 0);
                x.put(b, Edge.JOY, 9);
            }
            Edge.due("two of three benches alike", x.benches(1, 0), 222);
        });
        Edge.edge(20, "OUT in the minutes, not ahead: the bench told is that of now", () -> {
            SteamOnBench x = Edge.under("9 * bench", "10", "bench");
            x.bather(0, 0);
            Edge.due("2, and OUT then, as glad as 1 twice", x.benches(2, 0), 2);
            Edge.due("once on the highest", x.benches(1, 0), 3);
            Edge.due("JOY", x.benches(10, 1), 2);
        });
    }

    private static void changed() {
        Edge.edge(21, "BAD: n (0 .. 40)", () -> {
            for (int n : Edge.outside(0, 40)) { Edge.same("swap " + n, x -> x.swap(n, 0), Edge.BAD); }
        });
        Edge.edge(21, "BAD: what", () -> {
            for (int what : Edge.outside(0, 1)) { Edge.same("swap 1 " + what, x -> x.swap(1, what), Edge.BAD); }
        });
        Edge.edge(21, "what is asked changes nothing", () -> {
            for (int what = 0; what < 2; what++) {
                int w = what;
                Edge.same("swap 40 " + w, x -> x.swap(40, w), Edge.furnished().swap(40, w));
            }
        });
        Edge.edge(21, "-1: none: no BATHERS, one, one IN and one OUT, two on one BENCH", () -> {
            SteamOnBench x = glad("bench * more");
            Edge.due("no BATHERS", x.swap(40, 0), -1);
            Edge.due("as so", x.swap(40, 1), 0);
            x.bather(1, 2);
            Edge.due("one", x.swap(40, 0), -1);
            Edge.due("as so", x.swap(40, 1), 80);
            x.bather(9, 3);
            Edge.due("one OUT", x.swap(40, 0), -1);
            Edge.due("as so", x.swap(40, 1), 80);
            x.put(1, Edge.BENCH, 2);
            Edge.due("on one BENCH", x.swap(1, 0), -1);
            Edge.due("as so", x.swap(1, 1), 20);
        });
        Edge.edge(21, "a -1 that is an answer comes behind the refusal of a number", () -> {
            Edge.due("-1", Edge.fresh().swap(40, 0), -1);
            Edge.due("n", Edge.fresh().swap(41, 0), Edge.BAD);
            Edge.due("n", Edge.fresh().swap(-1, 0), Edge.BAD);
            Edge.due("what", Edge.fresh().swap(40, 2), Edge.BAD);
        });
        Edge.edge(21, "n 0: none is more than so", () -> {
            SteamOnBench x = glad("bench * more");
            x.bather(1, 2);
            x.bather(9, 0);
            x.put(0, Edge.JOY, 3);
            Edge.due("swap", x.swap(0, 0), -1);
            Edge.due("as so", x.swap(0, 1), 3);
        });
        Edge.edge(21, "if more than so: by 1; not by 0", () -> {
            SteamOnBench x = glad("bench * more");
            x.bather(1, 1);
            x.bather(2, 0);
            Edge.due("2 for 1", x.swap(1, 0), 1);
            Edge.due("JOY", x.swap(1, 1), 2);
            x = glad("bench * more");
            x.bather(2, 1);
            x.bather(2, 0);
            Edge.due("2 for 2", x.swap(1, 0), -1);
            Edge.due("JOY", x.swap(1, 1), 2);
        });
        Edge.edge(21, "the lesser first; of like ones the first: among six", () -> {
            SteamOnBench x = glad("bench = more");
            int[] more = {0, 1, 2, 0, 1, 2};
            int[] bench = {0, 1, 2, 0, 2, 1};
            for (int b = 0; b < 6; b++) { x.bather(more[b], bench[b]); }
            Edge.due("the last two", x.swap(1, 0), 45);
            Edge.due("JOY", x.swap(40, 1), 240);
            x.put(1, Edge.BENCH, 2);
            x.put(2, Edge.BENCH, 1);
            Edge.due("1 and 2, 1 and 5, 2 and 4, 4 and 5 alike", x.swap(1, 0), 12);
        });
        Edge.edge(21, "so that all stays within 999: like ones", () -> {
            SteamOnBench x = glad("bench * more");
            x.bather(1, 2);
            x.bather(9, 0);
            x.put(1, Edge.JOY, 999);
            Edge.due("no more than so", x.swap(1, 0), -1);
            Edge.due("as so", x.swap(1, 1), 1001);
        });
    }

    private static void burnt() {
        Edge.edge(22, "BAD: n (0 .. 40)", () -> {
            for (int n : Edge.outside(0, 40)) { Edge.same("logs " + n, x -> x.logs(n, 0), Edge.BAD); }
        });
        Edge.edge(22, "BAD: what", () -> {
            for (int what : Edge.outside(0, 1)) { Edge.same("logs 1 " + what, x -> x.logs(1, what), Edge.BAD); }
        });
        Edge.edge(22, "what is asked changes nothing", () -> {
            for (int what = 0; what < 2; what++) {
                int w = what;
                Edge.same("logs 40 " + w, x -> x.logs(40, w), Edge.furnished().logs(40, w));
            }
        });
        Edge.edge(22, "How many LOGS (0 .. WOOD, 9 at most): of none, one, eight, nine, ten, 99", () -> {
            int[] wood = {0, 1, 8, 9, 10, 99};
            int[] due = {0, 1, 8, 9, 9, 9};
            for (int i = 0; i < 6; i++) {
                SteamOnBench x = glad("stones");
                x.bather(0, 0);
                x.fire(Edge.STONES, 0);
                x.fire(Edge.WOOD, wood[i]);
                Edge.due("one minute, the bound of glad", x.logs(1, 0), Math.min(2, due[i]));
                x = glad("10 * (50 * " + due[i] + " < stones + 1)");
                x.bather(0, 0);
                x.fire(Edge.STONES, 0);
                x.fire(Edge.WOOD, wood[i]);
                Edge.due("logs of " + wood[i], x.logs(1, 0), due[i]);
                Edge.due("JOY", x.logs(1, 1), 10);
                x = glad("10 * (50 * " + due[i] + " < stones)");
                x.bather(0, 0);
                x.fire(Edge.STONES, 0);
                x.fire(Edge.WOOD, wood[i]);
                Edge.due("one more can't be", x.logs(1, 0), 0);
                Edge.due("JOY", x.logs(1, 1), 0);
            }
        });
        Edge.edge(22, "of like ones the fewest: no BATHERS, n 0, JOY 999", () -> {
            SteamOnBench x = glad("stones");
            Edge.due("no BATHERS", x.logs(40, 0), 0);
            x.bather(0, 0);
            x.put(0, Edge.JOY, 4);
            Edge.due("n 0", x.logs(0, 0), 0);
            Edge.due("as it is", x.logs(0, 1), 4);
            x.put(0, Edge.JOY, 999);
            Edge.due("999", x.logs(40, 0), 0);
            Edge.due("999", x.logs(40, 1), 999);
        });
        Edge.edge(22, "STONES 50 more (999 at most), by each LOG", () -> {
            SteamOnBench x = glad("stones = 999");
            x.bather(0, 0);
            x.fire(Edge.STONES, 900);
            Edge.due("950, 999", x.logs(1, 0), 2);
            x.fire(Edge.STONES, 949);
            Edge.due("999", x.logs(1, 0), 1);
            x.fire(Edge.STONES, 999);
            Edge.due("it is", x.logs(1, 0), 0);
        });
    }

    private static void satDown() {
        Edge.edge(23, "-5: none such", () -> {
            for (int b : Edge.outside(0, 3)) { Edge.same("stays " + b, x -> x.stays(b, 0), Edge.NO_BATHER); }
        });
        Edge.edge(23, "-7: what", () -> {
            for (int what : Edge.outside(0, 1)) { Edge.same("stays 0 " + what, x -> x.stays(0, what), Edge.NOT_AS_TOLD); }
        });
        Edge.edge(23, "of several REFUSALS the first one told: -5, -7", () ->
            Edge.same("stays 4 2", x -> x.stays(4, 2), Edge.NO_BATHER));
        Edge.edge(23, "what is asked changes nothing", () -> {
            for (int b = 0; b < 4; b++) {
                int one = b;
                Edge.same("stays " + one + " 0", x -> x.stays(one, 0), Edge.furnished().stays(one, 0));
                Edge.same("stays " + one + " 1", x -> x.stays(one, 1), Edge.furnished().stays(one, 1));
            }
        });
        Edge.edge(23, "never in 40: 41; in the fortieth: 40; at once: 1", () -> {
            SteamOnBench x = Edge.under("1", "50", "0");
            x.bather(0, 101);
            Edge.due("never", x.stays(0, 1), 41);
            x.put(0, Edge.WARM, 11);
            Edge.due("in the fortieth", x.stays(0, 1), 40);
            x.put(0, Edge.WARM, 50);
            Edge.due("at once", x.stays(0, 1), 1);
            x.put(0, Edge.WARM, 999);
            Edge.due("at once", x.stays(0, 1), 1);
        });
        Edge.edge(23, "of like ones the highest: of three, of two", () -> {
            SteamOnBench x = Edge.under("1", "50", "0");
            x.bather(0, 100);
            Edge.due("three, never", x.stays(0, 0), 2);
            x.put(0, Edge.WARM, 50);
            Edge.due("three, at once", x.stays(0, 0), 2);
            x = Edge.under("1 + (bench = 2)", "50", "0");
            x.bather(0, 402);
            Edge.due("0 and 1", x.stays(0, 0), 1);
            Edge.due("11", x.stays(0, 1), 11);
            x = Edge.under("2 - (bench = 0)", "50", "0");
            x.bather(0, 402);
            Edge.due("0 alone", x.stays(0, 0), 0);
        });
        Edge.edge(23, "who is OUT, were one to sit there (the door not told)", () -> {
            SteamOnBench x = Edge.under("steam", "50", "0");
            x.bather(0, 483);
            x.fire(Edge.STEAM, 3);
            Edge.due("51 by the first", x.stays(0, 1), 1);
            x.fire(Edge.STEAM, 2);
            Edge.due("50, 51", x.stays(0, 1), 2);
            x.fire(Edge.STEAM, 1);
            Edge.due("49 and no more", x.stays(0, 1), 41);
            Edge.due("STEAM", x.hut(2), 1);
        });
    }

    private static void shared() {
        Edge.edge(24, "NO: none such: a BATHER", () -> {
            for (int b : Edge.outside(0, 3)) { Edge.same("share " + b, x -> x.share(b, 1, 0), Edge.NO); }
        });
        Edge.edge(24, "NO: none such: n (0 .. 40)", () -> {
            for (int n : Edge.outside(0, 40)) { Edge.same("share 0 " + n, x -> x.share(0, n, 0), Edge.NO); }
        });
        Edge.edge(24, "NO: none such: part", () -> {
            for (int part : Edge.outside(0, 1)) { Edge.same("share 0 1 " + part, x -> x.share(0, 1, part), Edge.NO); }
        });
        Edge.edge(24, "NO: that is 0", () -> {
            SteamOnBench x = glad("0");
            x.bather(0, 0);
            x.bather(0, 0);
            for (int part = 0; part < 2; part++) {
                Edge.due("now", x.share(0, 0, part), Edge.NO);
                Edge.due("behind 40", x.share(1, 40, part), Edge.NO);
            }
            x.put(1, Edge.JOY, 1);
            Edge.due("0 of 1", x.share(0, 40, 0), 0);
            Edge.due("0 of 1", x.share(0, 40, 1), 1);
            Edge.due("1 of 1", x.share(1, 40, 0), 1);
            Edge.due("1 of 1", x.share(1, 40, 1), 1);
        });
        Edge.edge(24, "that is 0 then, if not now; not then, if it is now", () -> {
            SteamOnBench x = glad("0 - 1");
            x.bather(0, 0);
            x.put(0, Edge.JOY, 2);
            Edge.due("behind 1", x.share(0, 1, 1), 1);
            Edge.due("behind 2", x.share(0, 2, 1), Edge.NO);
            x = glad("1");
            x.bather(0, 0);
            Edge.due("now", x.share(0, 0, 0), Edge.NO);
            Edge.due("behind 1", x.share(0, 1, 0), 1);
        });
        Edge.edge(24, "in lowest terms: the most, nothing in common, all in common", () -> {
            SteamOnBench x = glad("0");
            for (int b = 0; b < 6; b++) {
                x.bather(0, 0);
                x.put(b, Edge.JOY, 999);
            }
            Edge.due("999 of 5994", x.share(5, 0, 0), 1);
            Edge.due("999 of 5994", x.share(5, 0, 1), 6);
            x.put(0, Edge.JOY, 998);
            Edge.due("998 of 5993", x.share(0, 40, 0), 998);
            Edge.due("998 of 5993", x.share(0, 40, 1), 5993);
            Edge.due("999 of 5993", x.share(1, 40, 1), 5993);
            for (int b = 1; b < 6; b++) { x.put(b, Edge.JOY, 0); }
            Edge.due("998 of 998", x.share(0, 40, 1), 1);
            Edge.due("0 of 998", x.share(1, 40, 1), 1);
        });
        Edge.edge(24, "what is asked changes nothing", () -> {
            for (int b = 0; b < 4; b++) {
                int one = b;
                Edge.same("share " + one + " 40 0", x -> x.share(one, 40, 0), Edge.furnished().share(one, 40, 0));
                Edge.same("share " + one + " 40 1", x -> x.share(one, 40, 1), Edge.furnished().share(one, 40, 1));
            }
        });
    }

    public static void main(String[] args) {
        poured();
        seated();
        changed();
        burnt();
        satDown();
        shared();
        Edge.end();
    }
}
