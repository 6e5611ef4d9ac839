import java.util.ArrayList;
import java.util.List;
import java.util.function.Supplier;
import java.util.function.ToLongFunction;

/** What the boundary tests share: a case for each sentence of the document, and what a call must leave as it was. */
final class Edge {
    static final int NONE = -1, BAD = -2, STATE = -3, FULL = -4;
    static final int NO_BATHER = -5, NOT_AS_TOLD = -7;
    static final int NOTHING_THERE = -11, OUTSIDE = -12, OTHER_SORT = -13, BELOW_ZERO = -14;
    static final long NO = -4611686018427387904L;
    static final int BENCH = 0, WARM = 1, JOY = 2;
    static final int MINUTE = 0, STONES = 1, STEAM = 2, WOOD = 3;
    static final int BYTES = 0, SHORTS = 1, INTS = 2;

    private static int cases;
    private static int wrong;
    private static String at = "";

    private Edge() { }

    /** A case of its own for a sentence. */
    static void edge(int promise, String sentence, Runnable test) {
        cases++;
        at = "promise " + promise + ", \"" + sentence + "\"";
        test.run();
    }

    static void due(String what, long got, long want) {
        if (got != want) {
            wrong++;
            System.out.println(at + ": " + what + " answered " + got + ", due is " + want);
        }
    }

    static void end() {
        System.out.println(wrong == 0 ? cases + " boundary cases hold" : wrong + " answers are not as due");
        if (wrong != 0) { System.exit(1); }
    }

    /** The nearest numbers outside of these bounds, and the farthest. */
    static int[] outside(int least, int most) {
        return new int[] {least - 1, most + 1, Integer.MIN_VALUE, Integer.MAX_VALUE};
    }

    // ---- huts

    static SteamOnBench fresh() { return new SteamOnBench(); }

    static void write(SteamOnBench x, String text) {
        for (int i = 0; i < text.length(); i++) { x.feed(1, text.charAt(i), 0, 0, 0, 0); }
    }
    static int text(SteamOnBench x, String text) {
        write(x, text);
        return x.text();
    }

    /** A new hut under the law of such a text. */
    static SteamOnBench under(String feels, String bears, String glad) {
        SteamOnBench x = fresh();
        int t = text(x, "feels " + feels + ";bears " + bears + ";glad " + glad + ";");
        due("text " + feels + "; " + bears + "; " + glad, t, 1);
        x.force(1);
        return x;
    }

    /** A sheet of these numbers. */
    static void sheet(SteamOnBench x, int s, int sort, int... numbers) {
        due("sheet", x.sheet(s, sort, numbers.length), 1);
        for (int i = 0; i < numbers.length; i++) { due("cell", x.cell(s, i, numbers[i]), 1); }
    }

    /** A hut with four bathers, three texts, a begun tape, an image that is otherwise, and sheets of all sorts. */
    static SteamOnBench furnished() {
        SteamOnBench x = fresh();
        text(x, "feels 2+bench;bears 90;glad 4-bench;");
        text(x, "feels 3;bears warm+9;glad minute;");
        x.force(1);
        x.bather(14, 202);
        x.bather(22, 150);
        x.bather(43, 301);
        x.bather(57, 403);
        x.pour(2);
        x.minute();
        x.image();
        x.stoke();
        x.fire(STEAM, 17);
        x.force(2);
        x.door(3, 1);
        x.minute();
        x.door(1, 3);
        x.film(0, 0, 6);
        for (int s = 1; s < 3; s++) {
            x.sheet(s, s == 1 ? INTS : BYTES, 5 - s);
            for (int i = 0; i < 5 - s; i++) { x.cell(s, i, x.run(i + 1, 10 + s)); }
        }
        write(x, "feels 1;be");
        return x;
    }

    /** The furnished hut with as many bathers as can be. */
    static SteamOnBench crowded() {
        SteamOnBench x = furnished();
        x.bather(30, 3);
        x.bather(9, 2);
        return x;
    }

    // ---- what a call must leave

    /** The call is answered so, and behind it all is as in a hut where it wasn't made. */
    static void same(Supplier<SteamOnBench> hut, String call, ToLongFunction<SteamOnBench> made, long want) {
        SteamOnBench x = hut.get();
        due(call, made.applyAsLong(x), want);
        if (!all(x).equals(all(hut.get()))) { due(call + " leaves all as it was", 0, 1); }
    }
    static void same(String call, ToLongFunction<SteamOnBench> made, long want) {
        same(Edge::furnished, call, made, want);
    }

    /** All that can be asked of a furnished hut, which is used up by it. */
    private static List<Long> all(SteamOnBench x) {
        List<Long> told = new ArrayList<>();
        tell(x, told);
        told.add((long) x.text());
        for (int t = 0; t < x.count(3); t++) {
            x.force(t);
            for (int part = 0; part < 3; part++) { told.add((long) x.asks(part, 0)); }
        }
        told.add((long) x.back());
        tell(x, told);
        return told;
    }

    private static void tell(SteamOnBench x, List<Long> told) {
        for (int what = 0; what < 6; what++) { told.add((long) x.count(what)); }
        for (int what = 0; what < 4; what++) { told.add((long) x.hut(what)); }
        for (int b = 0; b < x.count(0); b++) {
            for (int what = 0; what < 8; what++) { told.add((long) x.told(b, what)); }
        }
        for (int s = 0; s < 4; s++) {
            for (int sort = 0; sort < 3; sort++) { told.add((long) x.bathersBy(s, sort, 0, 0)); }
            told.add((long) sizeOf(x, s));
            for (int b = 0; b < x.count(0); b++) { told.add((long) x.judge(s, b)); }
        }
    }

    /** Numbers of a sheet copied to where they are change nothing. */
    static int sizeOf(SteamOnBench x, int s) {
        int size = -1;
        while (size < 40 && x.copy(s, 0, s, 0, size + 1) == size + 1) { size++; }
        return size;
    }
}
