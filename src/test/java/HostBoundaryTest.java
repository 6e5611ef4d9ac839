/** Boundary cases of promises 36 to 40: the host's sheets, and what is taken. */
public final class HostBoundaryTest {
    /** Whether number i of a sheet is v, of 0 .. 994: a bather OUT is as warm then. */
    private static void number(SteamOnBench x, int s, int sort, int i, int v) {
        int b = x.count(0) - 1;
        int bench = x.put(b, Edge.BENCH, 3);
        int warm = x.put(b, Edge.WARM, v + 5);
        x.sheet(3, sort, 1);
        Edge.due("copy", x.copy(s, i, 3, 0, 1), 1);
        if (v == 0) { x.put(b, Edge.WARM, 0); }
        Edge.due("number " + i, x.judge(3, b), -1);
        x.put(b, Edge.BENCH, bench);
        x.put(b, Edge.WARM, warm);
    }

    private static void numbers(SteamOnBench x, int s, int sort, int... due) {
        Edge.due("size", Edge.sizeOf(x, s), due.length);
        for (int i = 0; i < due.length; i++) { number(x, s, sort, i, due[i]); }
    }

    private static SteamOnBench withBather() {
        SteamOnBench x = Edge.fresh();
        x.bather(0, 0);
        return x;
    }

    private static void sheets() {
        Edge.edge(36, "BAD: SHEET", () -> {
            for (int s : Edge.outside(0, 3)) {
                Edge.same("sheet " + s, x -> x.sheet(s, 0, 3), Edge.BAD);
                Edge.same("sheet " + s + ", missing", x -> x.sheet(s, -1, 3), Edge.BAD);
            }
        });
        Edge.edge(36, "BAD: sort", () -> {
            for (int sort : Edge.outside(-1, 2)) { Edge.same("sheet 0 " + sort, x -> x.sheet(0, sort, 3), Edge.BAD); }
        });
        Edge.edge(36, "BAD: n above 40", () -> {
            for (int n : new int[] {41, Integer.MAX_VALUE}) {
                for (int sort = 0; sort < 3; sort++) {
                    int of = sort;
                    Edge.same("sheet 0 " + of + " " + n, x -> x.sheet(0, of, n), Edge.BAD);
                }
            }
        });
        Edge.edge(36, "-14 (a size below 0)", () -> {
            for (int n : new int[] {-1, Integer.MIN_VALUE}) {
                for (int sort = 0; sort < 3; sort++) {
                    int of = sort;
                    Edge.same("sheet 0 " + of + " " + n, x -> x.sheet(0, of, n), Edge.BELOW_ZERO);
                }
            }
        });
        Edge.edge(36, "of several REFUSALS the first one told: BAD ahead of -14", () -> {
            Edge.same("sheet 4 0 -1", x -> x.sheet(4, 0, -1), Edge.BAD);
            Edge.same("sheet 0 3 -1", x -> x.sheet(0, 3, -1), Edge.BAD);
        });
        Edge.edge(36, "missing (sort -1: n does not matter)", () -> {
            for (int n : new int[] {0, 40, 41, -1, Integer.MIN_VALUE, Integer.MAX_VALUE}) {
                SteamOnBench x = Edge.furnished();
                Edge.due("sheet", x.sheet(0, -1, n), 1);
                Edge.due("cell", x.cell(0, 0, 0), Edge.NOTHING_THERE);
                Edge.due("again", x.sheet(0, -1, n), 1);
                Edge.due("another one stays", x.cell(1, 0, 0), 1);
            }
        });
        Edge.edge(36, "a row of n: 0, 1, 40 at most", () -> {
            for (int sort = 0; sort < 3; sort++) {
                for (int n : new int[] {0, 1, 40}) {
                    for (int s = 0; s < 4; s++) {
                        SteamOnBench x = Edge.furnished();
                        Edge.due("sheet", x.sheet(s, sort, n), 1);
                        Edge.due("size", Edge.sizeOf(x, s), n);
                        Edge.due("sort", x.bathersBy(s, sort, 0, 0), 0);
                        Edge.due("the last", x.cell(s, n - 1, 7), n == 0 ? Edge.OUTSIDE : 1);
                        Edge.due("past it", x.cell(s, n, 7), Edge.OUTSIDE);
                    }
                }
            }
        });
        Edge.edge(36, "all 0: also of a row that was another one", () -> {
            SteamOnBench x = withBather();
            Edge.sheet(x, 0, Edge.INTS, 7, 7, 7);
            x.sheet(0, Edge.INTS, 3);
            numbers(x, 0, Edge.INTS, 0, 0, 0);
            Edge.sheet(x, 0, Edge.INTS, 7, 7, 7);
            x.sheet(0, -1, 0);
            x.sheet(0, Edge.BYTES, 3);
            numbers(x, 0, Edge.BYTES, 0, 0, 0);
            Edge.sheet(x, 0, Edge.INTS, 7, 7, 7);
            x.sheet(0, Edge.INTS, 1);
            x.sheet(0, Edge.INTS, 3);
            numbers(x, 0, Edge.INTS, 0, 0, 0);
        });
    }

    private static void cells() {
        Edge.edge(37, "BAD: SHEET", () -> {
            for (int s : Edge.outside(0, 3)) { Edge.same("cell " + s, x -> x.cell(s, 0, 1), Edge.BAD); }
        });
        Edge.edge(37, "-11 (nothing there)", () -> Edge.same("cell 3", x -> x.cell(3, 0, 1), Edge.NOTHING_THERE));
        Edge.edge(37, "-12 (a place outside)", () -> {
            int[] size = {6, 4, 3};
            for (int s = 0; s < 3; s++) {
                int row = s;
                for (int i : Edge.outside(0, size[s] - 1)) {
                    Edge.same("cell " + row + " " + i, x -> x.cell(row, i, 1), Edge.OUTSIDE);
                }
            }
            SteamOnBench x = Edge.fresh();
            x.sheet(0, Edge.BYTES, 0);
            Edge.due("of none", x.cell(0, 0, 1), Edge.OUTSIDE);
            x.sheet(0, Edge.BYTES, 40);
            Edge.due("the last", x.cell(0, 39, 1), 1);
            Edge.due("past it", x.cell(0, 40, 1), Edge.OUTSIDE);
        });
        Edge.edge(37, "of several REFUSALS the first one told: BAD, -11, -12", () -> {
            Edge.same("cell 4 -1", x -> x.cell(4, -1, 1), Edge.BAD);
            Edge.same("cell 3 -1", x -> x.cell(3, -1, 1), Edge.NOTHING_THERE);
        });
        Edge.edge(37, "Number i becomes v, no other: the first, the last", () -> {
            SteamOnBench x = withBather();
            Edge.sheet(x, 0, Edge.INTS, 1, 2, 3);
            x.cell(0, 0, 9);
            numbers(x, 0, Edge.INTS, 9, 2, 3);
            x.cell(0, 2, 994);
            numbers(x, 0, Edge.INTS, 9, 2, 994);
        });
        Edge.edge(37, "of bytes its lowest 8 bits", () -> {
            SteamOnBench x = withBather();
            int far = 0x7fffff00;
            Edge.sheet(x, 0, Edge.BYTES, 127, 256, 257, 383, far + 5, -256 + 9, Integer.MIN_VALUE + 3);
            numbers(x, 0, Edge.BYTES, 127, 0, 1, 127, 5, 9, 3);
        });
        Edge.edge(37, "of shorts its lowest 16 bits", () -> {
            SteamOnBench x = withBather();
            int far = 0x7fff0000;
            Edge.sheet(x, 0, Edge.SHORTS, 994, 65536, 65537, 65536 + 994, far + 300, -65536 + 128, Integer.MIN_VALUE + 3);
            numbers(x, 0, Edge.SHORTS, 994, 0, 1, 994, 300, 128, 3);
        });
        Edge.edge(37, "of bytes 128 .. 255, of shorts 32768 .. 65535 are below 0: none is so WARM", () -> {
            SteamOnBench x = withBather();
            x.put(0, Edge.BENCH, 3);
            int[] bytes = {128, 200, 255, 384, -1};
            for (int v : bytes) {
                Edge.sheet(x, 0, Edge.BYTES, v);
                x.put(0, Edge.WARM, (v & 255) + 5);
                Edge.due("byte " + v, x.judge(0, 0), 0);
            }
            int[] shorts = {32768, 65535, -1};
            for (int v : shorts) {
                Edge.sheet(x, 0, Edge.SHORTS, v);
                Edge.due("short " + v, x.judge(0, 0), 0);
                Edge.due("no WARM", x.states(0, 0, 1), 0);
            }
        });
        Edge.edge(37, "of ints all bits", () -> {
            SteamOnBench x = withBather();
            x.put(0, Edge.BENCH, 3);
            for (int v : new int[] {256, 65536, Integer.MIN_VALUE, 1 << 24}) {
                Edge.sheet(x, 0, Edge.INTS, v);
                Edge.due("int " + v, x.states(0, 0, 1), v == 256 ? 1 : 0);
            }
        });
    }

    private static SteamOnBench twoRows() {
        SteamOnBench x = withBather();
        Edge.sheet(x, 0, Edge.INTS, 1, 2, 3, 4, 5);
        Edge.sheet(x, 1, Edge.INTS, 11, 12, 13);
        return x;
    }

    private static void outsideOf(int i, int j, int n) {
        SteamOnBench x = twoRows();
        Edge.due("copy 0 " + i + " 1 " + j + " " + n, x.copy(0, i, 1, j, n), Edge.OUTSIDE);
        numbers(x, 0, Edge.INTS, 1, 2, 3, 4, 5);
        numbers(x, 1, Edge.INTS, 11, 12, 13);
    }

    private static void copies() {
        Edge.edge(38, "BAD: SHEETS, the one and the other", () -> {
            for (int s : Edge.outside(0, 3)) {
                Edge.same("copy " + s, x -> x.copy(s, 0, 0, 0, 1), Edge.BAD);
                Edge.same("copy to " + s, x -> x.copy(0, 0, s, 0, 1), Edge.BAD);
            }
        });
        Edge.edge(38, "-11 (nothing there), the one and the other, both", () -> {
            Edge.same("copy 3 to 0", x -> x.copy(3, 0, 0, 0, 1), Edge.NOTHING_THERE);
            Edge.same("copy 0 to 3", x -> x.copy(0, 0, 3, 0, 1), Edge.NOTHING_THERE);
            Edge.same("copy 3 to 3", x -> x.copy(3, 0, 3, 0, 0), Edge.NOTHING_THERE);
        });
        Edge.edge(38, "-13: unlike sorts", () -> {
            for (int s = 0; s < 3; s++) {
                for (int other = 0; other < 3; other++) {
                    if (s == other) { continue; }
                    int from = s, to = other;
                    Edge.same("copy " + s + " to " + to, x -> x.copy(from, 0, to, 0, 1), Edge.OTHER_SORT);
                    Edge.same("copy of none", x -> x.copy(from, 0, to, 0, 0), Edge.OTHER_SORT);
                }
            }
        });
        Edge.edge(38, "-12: i", () -> {
            outsideOf(-1, 0, 1);
            outsideOf(-1, 0, 0);
            outsideOf(5, 0, 1);
            outsideOf(6, 0, 0);
            outsideOf(3, 0, 3);
            outsideOf(Integer.MAX_VALUE, 0, 1);
            outsideOf(Integer.MIN_VALUE, 0, 1);
        });
        Edge.edge(38, "-12: j", () -> {
            outsideOf(0, -1, 1);
            outsideOf(0, -1, 0);
            outsideOf(0, 3, 1);
            outsideOf(0, 4, 0);
            outsideOf(0, 1, 3);
            outsideOf(0, Integer.MAX_VALUE, 1);
            outsideOf(0, Integer.MIN_VALUE, 1);
        });
        Edge.edge(38, "-12: n (n below 0, too)", () -> {
            outsideOf(0, 0, -1);
            outsideOf(2, 2, -1);
            outsideOf(0, 0, Integer.MIN_VALUE);
            outsideOf(0, 0, 4);
            outsideOf(0, 0, 6);
            outsideOf(0, 0, Integer.MAX_VALUE);
            outsideOf(1, 1, Integer.MAX_VALUE);
            outsideOf(Integer.MAX_VALUE, Integer.MAX_VALUE, Integer.MAX_VALUE);
        });
        Edge.edge(38, "of several REFUSALS the first one told: BAD, -11, -13, -12", () -> {
            Edge.same("BAD ahead of -11", x -> x.copy(3, 0, 4, -1, -1), Edge.BAD);
            Edge.same("-11 ahead of -13, -12", x -> x.copy(3, -1, 0, -1, -1), Edge.NOTHING_THERE);
            Edge.same("-13 ahead of -12", x -> x.copy(0, -1, 1, -1, -1), Edge.OTHER_SORT);
        });
        Edge.edge(38, "n numbers: none, from the last place on, too; all; the last one", () -> {
            SteamOnBench x = twoRows();
            Edge.due("none", x.copy(0, 5, 1, 3, 0), 0);
            Edge.due("none", x.copy(0, 0, 1, 0, 0), 0);
            numbers(x, 1, Edge.INTS, 11, 12, 13);
            Edge.due("the last one", x.copy(0, 4, 1, 2, 1), 1);
            numbers(x, 1, Edge.INTS, 11, 12, 5);
            Edge.due("all of it", x.copy(0, 2, 1, 0, 3), 3);
            numbers(x, 1, Edge.INTS, 3, 4, 5);
            Edge.due("all of the lesser", x.copy(1, 0, 0, 0, 3), 3);
            numbers(x, 0, Edge.INTS, 3, 4, 5, 4, 5);
            numbers(x, 1, Edge.INTS, 3, 4, 5);
        });
        Edge.edge(38, "rows of none, rows of 40", () -> {
            SteamOnBench x = withBather();
            x.sheet(0, Edge.BYTES, 0);
            x.sheet(1, Edge.BYTES, 0);
            Edge.due("of none", x.copy(0, 0, 1, 0, 0), 0);
            Edge.due("of none", x.copy(0, 0, 1, 0, 1), Edge.OUTSIDE);
            for (int s = 0; s < 2; s++) { x.sheet(s, Edge.BYTES, 40); }
            x.cell(0, 39, 7);
            Edge.due("all 40", x.copy(0, 0, 1, 0, 40), 40);
            Edge.due("41", x.copy(0, 0, 1, 0, 41), Edge.OUTSIDE);
            number(x, 1, Edge.BYTES, 39, 7);
        });
        Edge.edge(38, "(or its own) (as they were): upwards, downwards, to the same place", () -> {
            SteamOnBench x = twoRows();
            Edge.due("upwards", x.copy(0, 0, 0, 1, 4), 4);
            numbers(x, 0, Edge.INTS, 1, 1, 2, 3, 4);
            x = twoRows();
            Edge.due("downwards", x.copy(0, 1, 0, 0, 4), 4);
            numbers(x, 0, Edge.INTS, 2, 3, 4, 5, 5);
            x = twoRows();
            Edge.due("the same", x.copy(0, 0, 0, 0, 5), 5);
            numbers(x, 0, Edge.INTS, 1, 2, 3, 4, 5);
        });
        Edge.edge(38, "bytes, shorts come as they are, below 0, too", () -> {
            SteamOnBench x = withBather();
            x.put(0, Edge.BENCH, 3);
            Edge.sheet(x, 0, Edge.BYTES, 200, 3);
            x.sheet(1, Edge.BYTES, 2);
            x.copy(0, 0, 1, 0, 2);
            x.put(0, Edge.WARM, 205);
            Edge.due("200 is none", x.judge(1, 0), 0);
            number(x, 1, Edge.BYTES, 1, 3);
        });
    }

    private static SteamOnBench pairs(int... numbers) {
        SteamOnBench x = Edge.fresh();
        Edge.sheet(x, 0, Edge.INTS, numbers);
        return x;
    }

    private static void bathersBy() {
        Edge.edge(39, "BAD: SHEET", () -> {
            for (int s : Edge.outside(0, 3)) { Edge.same("bathersBy " + s, x -> x.bathersBy(s, 1, 0, 1), Edge.BAD); }
        });
        Edge.edge(39, "BAD: sort", () -> {
            for (int sort : Edge.outside(0, 2)) {
                Edge.same("bathersBy 0 " + sort, x -> x.bathersBy(0, sort, 0, 1), Edge.BAD);
                Edge.same("of a missing one", x -> x.bathersBy(3, sort, 0, 1), Edge.BAD);
            }
        });
        Edge.edge(39, "BAD: n (0 .. 6)", () -> {
            for (int n : Edge.outside(0, 6)) { Edge.same("bathersBy " + n, x -> x.bathersBy(0, 1, 0, n), Edge.BAD); }
        });
        Edge.edge(39, "-11 (nothing there)", () -> {
            for (int sort = 0; sort < 3; sort++) {
                int of = sort;
                Edge.same("bathersBy 3", x -> x.bathersBy(3, of, 0, 1), Edge.NOTHING_THERE);
            }
        });
        Edge.edge(39, "-13: a SHEET of another sort", () -> {
            int[] of = {1, 2, 0};
            for (int s = 0; s < 3; s++) {
                for (int sort = 0; sort < 3; sort++) {
                    if (sort == of[s]) { continue; }
                    int row = s, other = sort;
                    Edge.same("bathersBy " + s + " " + sort, x -> x.bathersBy(row, other, 0, 1), Edge.OTHER_SORT);
                }
            }
        });
        Edge.edge(39, "of several REFUSALS the first one told: BAD, -11, -13, -12", () -> {
            Edge.same("BAD ahead of -11", x -> x.bathersBy(3, 0, -1, 7), Edge.BAD);
            Edge.same("BAD ahead of -13", x -> x.bathersBy(0, 0, -1, 7), Edge.BAD);
            Edge.same("-11 ahead of -12", x -> x.bathersBy(3, 0, -1, 1), Edge.NOTHING_THERE);
            Edge.same("-13 ahead of -12", x -> x.bathersBy(0, 0, -1, 1), Edge.OTHER_SORT);
        });
        Edge.edge(39, "n of them: none, six", () -> {
            SteamOnBench x = pairs(0, 10, 11, 20, 22, 31, 33, 42, 44, 53, 55, 60);
            Edge.due("none", x.bathersBy(0, Edge.INTS, 0, 0), 0);
            Edge.due("BATHERS", x.count(0), 0);
            Edge.due("six", x.bathersBy(0, Edge.INTS, 0, 6), 6);
            for (int b = 0; b < 6; b++) {
                Edge.due("KIND", x.told(b, 3), b);
                Edge.due("MORE", x.told(b, 4), b);
                Edge.due("WARM", x.told(b, 1), b + 1);
                Edge.due("BENCH", x.told(b, 0), new int[] {0, 0, 1, 2, 3, 0}[b]);
            }
        });
        Edge.edge(39, "from a place on: the first, another, the last pair", () -> {
            SteamOnBench x = pairs(0, 10, 11, 20, 22, 31);
            Edge.due("the last pair", x.bathersBy(0, Edge.INTS, 4, 1), 1);
            Edge.due("KIND", x.told(0, 3), 2);
            Edge.due("an odd place", x.bathersBy(0, Edge.INTS, 1, 2), 2);
            Edge.due("KIND", x.told(1, 3), 1);
            Edge.due("WARM", x.told(1, 1), 1);
            Edge.due("KIND", x.told(2, 3), 2);
            Edge.due("WARM", x.told(2, 1), 2);
        });
        Edge.edge(39, "-12: what stood ahead came", () -> {
            SteamOnBench x = pairs(0, 10, 11, 20, 22);
            Edge.due("half of the third", x.bathersBy(0, Edge.INTS, 0, 3), Edge.OUTSIDE);
            Edge.due("BATHERS", x.count(0), 2);
            Edge.due("the second", x.told(1, 3), 1);
            Edge.due("nothing of the second", x.bathersBy(0, Edge.INTS, 3, 2), Edge.OUTSIDE);
            Edge.due("BATHERS", x.count(0), 3);
        });
        Edge.edge(39, "-12: a place outside from the first on: none comes", () -> {
            for (int from : new int[] {-1, -2, 4, 5, 6, Integer.MIN_VALUE, Integer.MAX_VALUE, Integer.MAX_VALUE - 1}) {
                SteamOnBench x = pairs(0, 10, 11, 20, 22);
                Edge.due("bathersBy " + from, x.bathersBy(0, Edge.INTS, from, 1), Edge.OUTSIDE);
                Edge.due("BATHERS", x.count(0), 0);
            }
            SteamOnBench x = pairs();
            Edge.due("of a row of none", x.bathersBy(0, Edge.INTS, 0, 1), Edge.OUTSIDE);
            Edge.due("none of it", x.bathersBy(0, Edge.INTS, 0, 0), 0);
        });
        Edge.edge(39, "(others are left out): BAD ones", () -> {
            SteamOnBench x = pairs(60, 10, -1, 20, 0, 4, 0, -10, 0, 9993, 0, 10000);
            Edge.due("one of six", x.bathersBy(0, Edge.INTS, 0, 6), 1);
            Edge.due("BATHERS", x.count(0), 1);
            Edge.due("WARM", x.told(0, 1), 999);
        });
        Edge.edge(39, "(others are left out): FULL", () -> {
            SteamOnBench x = Edge.fresh();
            Edge.sheet(x, 0, Edge.INTS, 0, 10, 11, 20, 22, 31);
            for (int b = 0; b < 4; b++) { x.bather(50, 0); }
            Edge.due("two of three", x.bathersBy(0, Edge.INTS, 0, 3), 2);
            Edge.due("BATHERS", x.count(0), 6);
            Edge.due("the last that came", x.told(5, 3), 1);
            Edge.due("none of three", x.bathersBy(0, Edge.INTS, 0, 3), 0);
        });
        Edge.edge(39, "bytes: 128 and more are below 0, so left out", () -> {
            SteamOnBench x = Edge.fresh();
            Edge.sheet(x, 0, Edge.BYTES, 11, 127, 11, 120, 11, 130, 200, 10);
            Edge.due("one of four", x.bathersBy(0, Edge.BYTES, 0, 4), 1);
            Edge.due("WARM", x.told(0, 1), 12);
        });
    }

    private static SteamOnBench allKinds() {
        SteamOnBench x = Edge.fresh();
        for (int kind = 0; kind < 6; kind++) { x.bather(10 * kind, 10 * kind + 70); }
        return x;
    }

    private static void taken() {
        Edge.edge(40, "BAD: kind", () -> {
            for (int kind : Edge.outside(0, 6)) { Edge.same("taken 0 " + kind, x -> x.taken(0, kind), Edge.BAD); }
        });
        Edge.edge(40, "-12: i", () -> {
            for (int i : Edge.outside(0, 11)) {
                Edge.same("taken " + i + " 0", x -> x.taken(i, 0), Edge.OUTSIDE);
                Edge.same("taken " + i + " 6", x -> x.taken(i, 6), Edge.OUTSIDE);
            }
        });
        Edge.edge(40, "-11: none such", () -> {
            for (int i : new int[] {4, 5, 10, 11}) {
                for (int kind = 0; kind < 7; kind++) {
                    int of = kind;
                    Edge.same("taken " + i + " " + kind, x -> x.taken(i, of), Edge.NOTHING_THERE);
                }
            }
            for (int i = 0; i < 12; i++) { Edge.due("no BATHERS", Edge.fresh().taken(i, 0), Edge.NOTHING_THERE); }
        });
        Edge.edge(40, "of several REFUSALS the first one told: BAD, -12, -11, -13", () -> {
            Edge.same("BAD ahead of -12", x -> x.taken(12, 7), Edge.BAD);
            Edge.same("BAD ahead of -11", x -> x.taken(5, -1), Edge.BAD);
            Edge.same("-11 ahead of -13", x -> x.taken(5, 6), Edge.NOTHING_THERE);
            Edge.same("-11 ahead of -13", x -> x.taken(11, 0), Edge.NOTHING_THERE);
        });
        Edge.edge(40, "a BATHER of that KIND (also of one that is one): the number; -13", () -> {
            int[][] is = {{0}, {0, 1}, {0, 2}, {0, 1, 3}, {0, 2, 4}, {0, 5}};
            for (int b = 0; b < 6; b++) {
                for (int kind = 0; kind < 6; kind++) {
                    boolean one = false;
                    for (int of : is[b]) { one |= of == kind; }
                    Edge.due("taken " + b + " " + kind, allKinds().taken(b, kind), one ? b : Edge.OTHER_SORT);
                }
            }
        });
        Edge.edge(40, "6 how WARM one is: of places 6 .. 11 alone; -13", () -> {
            SteamOnBench x = allKinds();
            for (int b = 0; b < 6; b++) {
                Edge.due("how WARM", x.taken(6 + b, 6), b + 7);
                Edge.due("a BATHER for it", x.taken(b, 6), Edge.OTHER_SORT);
                for (int kind = 0; kind < 6; kind++) {
                    Edge.due("it for a BATHER", x.taken(6 + b, kind), Edge.OTHER_SORT);
                }
            }
            x.put(0, Edge.WARM, 0);
            x.put(5, Edge.WARM, 999);
            Edge.due("0", x.taken(6, 6), 0);
            Edge.due("999", x.taken(11, 6), 999);
        });
        Edge.edge(40, "who is OUT is taken as well", () -> {
            SteamOnBench x = Edge.fresh();
            x.bather(30, 553);
            Edge.due("taken", x.taken(0, 1), 0);
            Edge.due("how WARM", x.taken(6, 6), 55);
        });
        Edge.edge(40, "what is asked changes nothing", () -> {
            for (int i = 0; i < 12; i++) {
                int place = i;
                Edge.same("taken " + i, x -> x.taken(place, place < 6 ? 0 : 6), Edge.furnished().taken(i, i < 6 ? 0 : 6));
            }
        });
    }

    public static void main(String[] args) {
        sheets();
        cells();
        copies();
        bathersBy();
        taken();
        Edge.end();
    }
}
