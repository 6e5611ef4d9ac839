import java.util.ArrayList;
import java.util.List;

/** Long runs of mixed calls, answered by the class and by the model alike. */
public final class ModelTest {
    private static long state;
    private static int wrong;

    private static int any(int n) {
        state = state * 6364136223846793005L + 1442695040888963407L;
        return (int) ((state >>> 33) % n);
    }
    private static int near(int lo, int hi) {
        int kind = any(24);
        if (kind == 0) { return lo - 1; }
        if (kind == 1) { return hi + 1; }
        if (kind == 2) { return any(2) == 0 ? Integer.MIN_VALUE : Integer.MAX_VALUE; }
        if (kind == 3) { return lo; }
        if (kind == 4) { return hi; }
        return lo + any(hi - lo + 1);
    }

    private static final String[] BITS = {"feels", "bears", "glad", ";", "(", ")", "+", "-", "*", "<", "=", "or", "and", "not",
        "stones", "steam", "bench", "minute", "warm", "more", "1", "20", "9999", "12345", "0", "x", "A", ">", "\t", "wa rm", "00001"};

    /** An E by its grammar; now and then with something that can't stand there. Level 0 is "or", 5 is ONE. */
    private static void sum(StringBuilder to, int level, int depth) {
        if (any(150) == 0) { to.append(BITS[any(BITS.length)]).append(' '); }
        if (level == 5) { single(to, depth); return; }
        if (level == 2 && any(9) == 0) { to.append("not "); sum(to, 2, depth + 1); return; }
        sum(to, level == 2 ? 3 : level + 1, depth);
        if (any(depth > 1 ? 9 : 4) > 0) { return; }
        to.append(level == 0 ? "or " : level == 1 ? "and " : level == 2 ? (any(2) == 0 ? "<" : "= ")
            : level == 3 ? (any(2) == 0 ? "+" : "- ") : "*");
        sum(to, level == 2 ? 3 : level + 1, depth);
    }

    private static void single(StringBuilder to, int depth) {
        int k = any(12);
        if (k == 0) { to.append("- "); sum(to, 5, depth + 1); return; }
        if (k == 1) { to.append("( "); sum(to, 0, depth + 1); to.append(")"); return; }
        to.append(k < 5 ? any(any(3) == 0 ? 10000 : 90) + "" : BITS[14 + any(6)]).append(any(3) == 0 ? "\n" : " ");
    }

    private static String someText() {
        if (any(12) == 0) {
            StringBuilder deep = new StringBuilder("feels ");
            String[] opens = {"(", "not ", "-"};
            List<String> shut = new ArrayList<>();
            for (int i = any(4) + 3; i > 0; i--) {
                int o = any(3);
                deep.append(opens[o]);
                if (o == 0) { shut.add(")"); }
            }
            return deep.append("warm").append(String.join("", shut)).append("; bears 9*steam; glad -more;").toString();
        }
        if (any(12) == 0) {
            StringBuilder noise = new StringBuilder();
            for (int i = any(9); i > 0; i--) { noise.append(BITS[any(BITS.length)]).append(any(2) == 0 ? " " : ""); }
            return noise.toString();
        }
        StringBuilder to = new StringBuilder("feels ");
        sum(to, 0, 0);
        to.append("; bears ").append(any(2) == 0 ? "40 + " : "");
        sum(to, 3, 0);
        to.append(";glad ");
        sum(to, 0, 0);
        to.append("; ");
        if (any(15) == 0) { to.append(BITS[any(BITS.length)]); }
        return to.toString();
    }

    private static void same(int run, String call, long got, long want) {
        if (got != want && wrong++ < 20) {
            System.out.println("run " + run + ": " + call + " answered " + got + ", the model " + want);
        }
    }

    private static int writeText(SteamOnBench x, Model m, int run, int calls) {
        String text = someText();
        int used = 0;
        for (int i = 0; i < text.length() && used < calls; i += 5) {
            int[] b = new int[5];
            int n = Math.min(5, text.length() - i);
            for (int k = 0; k < n; k++) { b[k] = text.charAt(i + k); }
            same(run, "feed", x.feed(n, b[0], b[1], b[2], b[3], b[4]), m.feed(n, b[0], b[1], b[2], b[3], b[4]));
            used++;
        }
        same(run, "text() of " + m.tape, x.text(), m.text());
        return used + 1;
    }

    private static int what(int hi) { return any(12) == 0 ? near(0, hi) : any(hi + 1); }
    private static int who(Model m) { return any(10) == 0 ? near(0, 5) : any(Math.max(1, m.now.guests.size())); }

    private static void one(SteamOnBench x, Model m, int run) {
        int p, q, r, s, t;
        switch (any(48)) {
            case 0 -> { p = near(0, 5); same(run, "count " + p, x.count(p), m.count(p)); }
            case 1 -> { p = what(3); q = any(4) == 0 ? near(0, 999) : near(0, 99); same(run, "fire " + p + " " + q, x.fire(p, q), m.fire(p, q)); }
            case 2 -> { p = near(0, 3); same(run, "hut " + p, x.hut(p), m.hut(p)); }
            case 3 -> { p = near(1, 5); q = near(0, 255); r = near(0, 255); same(run, "feed " + p, x.feed(p, q, r, 32, 32, q), m.feed(p, q, r, 32, 32, q)); }
            case 4 -> same(run, "text of " + m.tape, x.text(), m.text());
            case 46, 47 -> filmed(x, m, run);
            case 5, 6 -> { p = what(5); same(run, "force " + p, x.force(p), m.force(p)); }
            case 7 -> { p = what(2); q = who(m); same(run, "asks " + p + " " + q, x.asks(p, q), m.asks(p, q)); }
            case 8, 9 -> { p = near(0, 59); q = any(3) == 0 ? near(0, 9993) : near(0, 900); same(run, "bather " + p + " " + q, x.bather(p, q), m.bather(p, q)); }
            case 10, 11 -> { p = who(m); q = what(2); r = q == 0 ? near(0, 3) : any(3) == 0 ? near(0, 999) : near(0, 70); same(run, "put " + p + " " + q + " " + r, x.put(p, q, r), m.put(p, q, r)); }
            case 12, 13 -> { p = who(m); q = what(7); same(run, "told " + p + " " + q, x.told(p, q), m.told(p, q)); }
            case 14 -> { p = near(1, 3); same(run, "pour " + p, x.pour(p), m.pour(p)); }
            case 15 -> same(run, "stoke", x.stoke(), m.stoke());
            case 16, 17 -> { p = who(m); q = near(0, 3); same(run, "door " + p + " " + q, x.door(p, q), m.door(p, q)); }
            case 18, 19 -> same(run, "minute", x.minute(), m.minute());
            case 20, 21 -> { p = near(0, 40); q = any(3) == 0 ? near(0, 30) : any(2) == 0 ? 10 + who(m) : 20 + who(m); same(run, "run " + p + " " + q, x.run(p, q), m.run(p, q)); }
            case 22 -> { p = who(m); same(run, "leaves " + p, x.leaves(p), m.leaves(p)); }
            case 23 -> same(run, "together", x.together(), m.together());
            case 24 -> { p = near(1, any(6) == 0 ? 8 : 5); q = what(1); same(run, "when " + p + " " + q, x.when(p, q), m.when(p, q)); }
            case 25 -> { p = near(1, any(6) == 0 ? 10 : 4); q = what(1); same(run, "benches " + p + " " + q, x.benches(p, q), m.benches(p, q)); }
            case 26 -> { p = near(0, 40); q = what(1); same(run, "swap " + p + " " + q, x.swap(p, q), m.swap(p, q)); }
            case 27 -> { p = near(0, 40); q = what(1); same(run, "logs " + p + " " + q, x.logs(p, q), m.logs(p, q)); }
            case 28 -> { p = who(m); q = what(1); same(run, "stays " + p + " " + q, x.stays(p, q), m.stays(p, q)); }
            case 29 -> { p = who(m); q = near(0, 40); r = what(1); same(run, "share " + p + " " + q, x.share(p, q, r), m.share(p, q, r)); }
            case 30 -> { p = what(3); q = who(m); same(run, "judge " + p + " " + q, x.judge(p, q), m.judge(p, q)); }
            case 31 -> { p = what(3); q = who(m); r = what(1); same(run, "kinds " + p + " " + q + " " + r, x.kinds(p, q, r), m.kinds(p, q, r)); }
            case 32 -> { p = what(3); q = who(m); r = what(2); same(run, "states " + p + " " + q + " " + r, x.states(p, q, r), m.states(p, q, r)); }
            case 33 -> { p = what(3); q = who(m); r = what(1); same(run, "steams " + p + " " + q + " " + r, x.steams(p, q, r), m.steams(p, q, r)); }
            case 34 -> { p = what(3); same(run, "whose " + p, x.whose(p), m.whose(p)); }
            case 35 -> { p = what(3); q = who(m); same(run, "laws " + p + " " + q, x.laws(p, q), m.laws(p, q)); }
            case 36, 37 -> { p = what(3); q = who(m); r = any(3) == 0 ? near(0, 20) : any(4); same(run, "film " + p + " " + q + " " + r, x.film(p, q, r), m.film(p, q, r)); }
            case 38 -> { p = near(0, 99999); q = what(1); same(run, "drawn " + p + " " + q, x.drawn(p, q), m.drawn(p, q)); }
            case 39 -> { p = near(0, 99999); q = near(1, 40); r = any(3) == 0 ? near(0, 9999) : near(0, 300); s = what(1); same(run, "odds " + p + " " + q + " " + r + " " + s, x.odds(p, q, r, s), m.odds(p, q, r, s)); }
            case 40 -> same(run, "image", x.image(), m.image());
            case 41 -> { if (any(3) == 0) { same(run, "back", x.back(), m.back()); } }
            case 42 -> { p = what(3); q = near(-1, 2); r = near(0, 40); same(run, "sheet " + p + " " + q + " " + r, x.sheet(p, q, r), m.sheet(p, q, r)); }
            case 43 -> { p = what(3); q = any(2) == 0 ? any(8) : near(0, 39); r = any(2) == 0 ? near(0, 70) : any(70000) - 1000; same(run, "cell " + p + " " + q + " " + r, x.cell(p, q, r), m.cell(p, q, r)); }
            case 44 -> { p = what(3); q = near(0, 12); r = any(2) == 0 ? p : what(3); s = near(0, 12); t = near(0, 8); same(run, "copy", x.copy(p, q, r, s, t), m.copy(p, q, r, s, t)); }
            default -> {
                p = what(3); q = near(0, 2); r = near(0, 12); s = near(0, 6);
                same(run, "bathersBy", x.bathersBy(p, q, r, s), m.bathersBy(p, q, r, s));
                q = near(0, 11); r = near(0, 6);
                same(run, "taken " + q + " " + r, x.taken(q, r), m.taken(q, r));
            }
        }
    }

    /** A film, perhaps spoiled, and all that is asked of told minutes, of the filmed one or another. */
    private static void filmed(SteamOnBench x, Model m, int run) {
        int s = any(4), b = who(m), n = any(any(3) == 0 ? 21 : 6);
        same(run, "film", x.film(s, b, n), m.film(s, b, n));
        if (any(4) == 0) { b = who(m); }
        if (any(3) == 0) { same(run, "minute", x.minute(), m.minute()); }
        if (any(3) == 0) { int v = any(60); same(run, "cell", x.cell(s, n - 1, v), m.cell(s, n - 1, v)); }
        same(run, "judge", x.judge(s, b), m.judge(s, b));
        int w = any(3);
        same(run, "kinds", x.kinds(s, b, w), m.kinds(s, b, w));
        same(run, "states", x.states(s, b, w), m.states(s, b, w));
        same(run, "steams", x.steams(s, b, w), m.steams(s, b, w));
        same(run, "whose", x.whose(s), m.whose(s));
        same(run, "laws", x.laws(s, b), m.laws(s, b));
    }

    private static void wholeState(SteamOnBench x, Model m, int run) {
        for (int i = 0; i < 6; i++) { same(run, "at last count " + i, x.count(i), m.count(i)); }
        for (int i = 0; i < 4; i++) { same(run, "at last hut " + i, x.hut(i), m.hut(i)); }
        for (int b = 0; b < 6; b++) {
            for (int w = 0; w < 8; w++) { same(run, "at last told " + b + " " + w, x.told(b, w), m.told(b, w)); }
        }
    }

    public static void main(String[] args) {
        int runs = args.length > 0 ? Integer.parseInt(args[0]) : 400;
        for (int run = 0; run < runs; run++) {
            state = 77L + run * 1000003L;
            SteamOnBench x = new SteamOnBench();
            Model m = new Model();
            int calls = 0;
            for (int b = any(7); b > 0; b--) {
                int k = any(60), w = any(50) * 10 + any(4);
                same(run, "bather " + k + " " + w, x.bather(k, w), m.bather(k, w));
                calls++;
            }
            while (calls < 440) {
                if (any(30) == 0) {
                    calls += writeText(x, m, run, 33);
                } else {
                    one(x, m, run);
                    calls += 2;
                }
            }
            wholeState(x, m, run);
        }
        System.out.println(wrong == 0 ? "the class answers as the model" : wrong + " answers are otherwise");
        if (wrong != 0) { System.exit(1); }
    }
}
