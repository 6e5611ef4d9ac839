import java.util.ArrayList;
import java.util.Arrays;
import java.util.List;
import java.util.function.Function;
import java.util.regex.Matcher;
import java.util.regex.Pattern;

/** The document a second time, written apart from the class and as plainly as can be, to hold the two together. */
final class Model {
    static final long NO = -4611686018427387904L;

    static final class Fault extends RuntimeException {
        private static final long serialVersionUID = 1;
        final int place;
        Fault(int place) { this.place = place; }
    }

    /** What an E is of: the hut and a bather. */
    interface Sum { int of(World w, Guest g); }

    static final class Law {
        final int number;
        final Sum feels, bears, glad;
        Law(int number, Sum feels, Sum bears, Sum glad) {
            this.number = number; this.feels = feels; this.bears = bears; this.glad = glad;
        }
    }

    // ---- kinds as classes, each as the one above it but for what is told

    static class Guest {
        int kind, more, bench, warm, joy;
        int feels(World w) { return bound(w.law.feels.of(w, this), -99, 99); }
        int bears(World w) { return bound(w.law.bears.of(w, this), 0, 999); }
        int glad(World w) { return bound(w.law.glad.of(w, this), -99, 99); }
        boolean in() { return bench != 3; }
        static int bound(int v, int lo, int hi) { return v < lo ? lo : v > hi ? hi : v; }
        Guest as(int newKind) {
            Guest g = made(newKind);
            g.more = more; g.bench = bench; g.warm = warm; g.joy = joy;
            return g;
        }
        static Guest made(int kind) {
            Guest g = kind == 0 ? new Guest() : kind == 1 ? new Proud() : kind == 2 ? new Child()
                : kind == 3 ? new Fainter() : kind == 4 ? new Talker() : new Stoker();
            g.kind = kind;
            return g;
        }
    }
    static class Proud extends Guest {
        @Override int bears(World w) { return super.bears(w) + 10 * more; }
        @Override int glad(World w) { return super.glad(w) + (bench == 2 ? more : 0); }
    }
    static class Child extends Guest {
        @Override int feels(World w) { int f = super.feels(w); return bench == 0 ? f / 2 : f; }
        @Override int bears(World w) { return super.bears(w) / 2; }
    }
    static final class Fainter extends Proud {
        @Override int feels(World w) { int f = super.feels(w); return w.hut[2] > 9 ? f * 2 : f; }
        @Override int glad(World w) { return super.glad(w) / 2; }
    }
    static final class Talker extends Child {
        @Override int feels(World w) { return super.feels(w) - more; }
        @Override int glad(World w) { return super.glad(w) + (int) w.guests.stream().filter(Guest::in).count(); }
    }
    static final class Stoker extends Guest {
        @Override int feels(World w) { return more; }
        @Override int glad(World w) { return w.hut[1] > 300 ? 99 : super.glad(w); }
    }

    static final class World {
        int[] hut = {0, 200, 0, 5};
        List<Guest> guests = new ArrayList<>();
        Law law;
        World copied() {
            World w = new World();
            w.hut = hut.clone();
            for (Guest g : guests) { w.guests.add(g.as(g.kind)); }
            w.law = law;
            return w;
        }
        int joy() { return guests.stream().mapToInt(g -> g.joy).sum(); }
        int inBits() {
            int bits = 0;
            for (int i = 0; i < guests.size(); i++) { if (guests.get(i).in()) { bits += 1 << i; } }
            return bits;
        }
        void cool(int what, int by) { hut[what] = Math.max(0, hut[what] - by); }
        int minute() {
            int before = inBits();
            for (Guest g : guests) {
                if (!g.in()) { g.warm = Math.max(g.warm - 5, 0); continue; }
                int f = g.feels(this), j = g.glad(this);
                g.warm = Guest.bound(g.warm + f, 0, 999);
                g.joy = Guest.bound(g.joy + j, 0, 999);
                if (g.warm > g.bears(this)) { g.bench = 3; cool(2, 1); }
            }
            cool(2, 1);
            cool(1, 2);
            hut[0]++;
            return before & ~inBits();
        }
        World behind(int n) { for (int i = 0; i < n; i++) { minute(); } return this; }
        boolean pour(int ladles) {
            if (hut[1] < 20 * ladles) { return false; }
            hut[1] -= 10 * ladles;
            hut[2] = Math.min(99, hut[2] + 3 * ladles);
            return true;
        }
        void log() { hut[3]--; hut[1] = Math.min(999, hut[1] + 50); }
    }

    // ---- texts: tokens by a regular expression, then sums as functions

    static final class Reader {
        final List<String> tokens = new ArrayList<>();
        final List<Integer> places = new ArrayList<>();
        int at, open;
        Reader(String tape) {
            Matcher m = Pattern.compile("[a-z]+|[0-9]+|[^ \\n]", Pattern.DOTALL).matcher(tape);
            while (m.find()) { tokens.add(m.group()); places.add(m.start()); }
            tokens.add("");
            places.add(tape.length());
        }
        String peek() { return tokens.get(at); }
        boolean is(String t) { return !t.isEmpty() && peek().equals(t); }
        Fault fault() { return new Fault(places.get(at)); }
        void must(String t) { if (!is(t)) { throw fault(); } at++; }
        Law law(int number) {
            Sum[] parts = new Sum[3];
            String[] keys = {"feels", "bears", "glad"};
            for (int i = 0; i < 3; i++) { must(keys[i]); parts[i] = or(); must(";"); }
            if (at != tokens.size() - 1) { throw fault(); }
            return new Law(number, parts[0], parts[1], parts[2]);
        }
        Sum or() {
            Sum a = and();
            while (is("or")) {
                at++;
                Sum x = a, y = and();
                a = (w, g) -> { boolean p = x.of(w, g) != 0, q = y.of(w, g) != 0; return p | q ? 1 : 0; };
            }
            return a;
        }
        Sum and() {
            Sum a = not();
            while (is("and")) {
                at++;
                Sum x = a, y = not();
                a = (w, g) -> { boolean p = x.of(w, g) != 0, q = y.of(w, g) != 0; return p & q ? 1 : 0; };
            }
            return a;
        }
        void opened() { if (open == 5) { throw fault(); } open++; at++; }
        Sum not() {
            if (is("not")) {
                opened();
                Sum x = not();
                open--;
                return (w, g) -> x.of(w, g) == 0 ? 1 : 0;
            }
            Sum a = sum();
            if (is("<")) { at++; Sum b = sum(); return (w, g) -> a.of(w, g) < b.of(w, g) ? 1 : 0; }
            if (is("=")) { at++; Sum b = sum(); return (w, g) -> a.of(w, g) == b.of(w, g) ? 1 : 0; }
            return a;
        }
        Sum sum() {
            Sum a = term();
            while (is("+") || is("-")) {
                boolean plus = is("+");
                at++;
                Sum x = a, y = term();
                a = (w, g) -> plus ? x.of(w, g) + y.of(w, g) : x.of(w, g) - y.of(w, g);
            }
            return a;
        }
        Sum term() {
            Sum a = one();
            while (is("*")) { at++; Sum x = a, y = one(); a = (w, g) -> x.of(w, g) * y.of(w, g); }
            return a;
        }
        Sum one() {
            String t = peek();
            if (is("-")) { opened(); Sum x = one(); open--; return (w, g) -> -x.of(w, g); }
            if (is("(")) { opened(); Sum x = or(); must(")"); open--; return x; }
            if (t.matches("[0-9]{1,4}")) { at++; int v = Integer.parseInt(t); return (w, g) -> v; }
            Sum named = switch (t) {
                case "stones" -> (w, g) -> w.hut[1];
                case "steam" -> (w, g) -> w.hut[2];
                case "bench" -> (w, g) -> g.bench % 3;
                case "minute" -> (w, g) -> w.hut[0];
                case "warm" -> (w, g) -> g.warm;
                case "more" -> (w, g) -> g.more;
                default -> throw fault();
            };
            at++;
            return named;
        }
    }

    // ---- the face

    World now = new World();
    World image;
    final List<Law> laws = new ArrayList<>();
    String tape = "";
    final Object[] sheets = new Object[4];

    Model() {
        laws.add(new Reader("feels 1 + bench + steam ; bears 60 ; glad steam - 2 ;").law(0));
        now.law = laws.get(0);
    }

    private boolean none(int b) { return b < 0 || b >= now.guests.size(); }
    private Guest guest(int b) { return now.guests.get(b); }
    private static boolean off(int v, int lo, int hi) { return v < lo || v > hi; }

    int count(int what) {
        return switch (what) {
            case 0 -> now.guests.size();
            case 1 -> Integer.bitCount(now.inBits());
            case 2 -> now.joy();
            case 3 -> laws.size();
            case 4 -> now.law.number;
            case 5 -> tape.length();
            default -> -2;
        };
    }
    int fire(int what, int v) {
        if (off(what, 0, 3) || off(v, 0, what < 2 ? 999 : 99)) { return -2; }
        int was = now.hut[what];
        now.hut[what] = v;
        return was;
    }
    int hut(int what) { return off(what, 0, 3) ? -2 : now.hut[what]; }
    int feed(int n, int... five) {
        if (off(n, 1, 5) || Arrays.stream(five).anyMatch(v -> off(v, 0, 255))) { return -2; }
        if (tape.length() + n > 160) { return -4; }
        for (int i = 0; i < n; i++) { tape += (char) five[i]; }
        return tape.length();
    }
    int text() {
        if (laws.size() == 6) { return -4; }
        String read = tape;
        tape = "";
        try {
            laws.add(new Reader(read).law(laws.size()));
        } catch (Fault f) {
            return -100 - f.place;
        }
        return laws.size() - 1;
    }
    int force(int t) {
        if (off(t, 0, laws.size() - 1)) { return -2; }
        int was = now.law.number;
        now.law = laws.get(t);
        return was;
    }
    int asks(int part, int b) {
        if (off(part, 0, 2) || none(b)) { return -1000; }
        Guest g = guest(b).as(0);
        return part == 0 ? g.feels(now) : part == 1 ? g.bears(now) : g.glad(now);
    }
    int bather(int kindMore, int warmBench) {
        if (off(kindMore, 0, 59) || off(warmBench, 0, 9999) || warmBench % 10 > 3) { return -2; }
        if (now.guests.size() == 6) { return -4; }
        Guest g = Guest.made(kindMore / 10);
        g.more = kindMore % 10;
        g.warm = warmBench / 10;
        g.bench = warmBench % 10;
        now.guests.add(g);
        return now.guests.size() - 1;
    }
    int put(int b, int what, int v) {
        if (none(b)) { return -5; }
        if (off(what, 0, 2) || off(v, 0, what == 0 ? 3 : 999)) { return -7; }
        Guest g = guest(b);
        int was = told(b, what);
        if (what == 0) { g.bench = v; }
        if (what == 1) { g.warm = v; }
        if (what == 2) { g.joy = v; }
        return was;
    }
    int told(int b, int what) {
        if (none(b)) { return -5000; }
        Guest g = guest(b);
        return switch (what) {
            case 0 -> g.bench;
            case 1 -> g.warm;
            case 2 -> g.joy;
            case 3 -> g.kind;
            case 4 -> g.more;
            case 5 -> g.feels(now);
            case 6 -> g.bears(now);
            case 7 -> g.glad(now);
            default -> -7000;
        };
    }
    int pour(int ladles) { return off(ladles, 1, 3) ? -2 : now.pour(ladles) ? now.hut[2] : -3; }
    int stoke() {
        if (now.hut[3] == 0) { return -3; }
        now.log();
        return now.hut[1];
    }
    int door(int b, int to) {
        if (none(b)) { return -5; }
        if (off(to, 0, 3)) { return -7; }
        int was = guest(b).bench;
        if (was == to) { return -3; }
        guest(b).bench = to;
        if (was == 3 || to == 3) { now.cool(2, 1); }
        return was;
    }
    int minute() { return now.hut[0] == 999 ? -3 : now.minute(); }
    int run(int n, int what) {
        if (off(n, 0, 40)) { return -2; }
        World w = now.copied().behind(n);
        if (what == 0) { return w.inBits(); }
        if (what == 1) { return w.joy(); }
        if (what == 2) { return w.hut[1]; }
        if (what == 3) { return w.hut[2]; }
        if (what >= 10 && what - 10 < w.guests.size()) { return w.guests.get(what - 10).warm; }
        if (what >= 20 && what - 20 < w.guests.size()) { return w.guests.get(what - 20).joy; }
        return -2;
    }
    private static int outBehind(World w, int b) {
        for (int n = 0; n <= 40; n++) {
            World later = w.copied().behind(n);
            if (!later.guests.get(b).in()) { return n; }
        }
        return 41;
    }
    int leaves(int b) {
        if (none(b)) { return -5; }
        int n = outBehind(now, b);
        return n == 41 ? -1 : n;
    }
    int together() {
        int n = 0;
        while (n < 40 && now.copied().behind(n + 1).inBits() == now.inBits()) { n++; }
        return n;
    }

    // ---- what is best

    int when(int n, int what) {
        if (off(n, 1, 8) || off(what, 0, 1)) { return -2; }
        int[] joys = new int[1 << n];
        for (int bits = 0; bits < joys.length; bits++) {
            World w = now.copied();
            for (int m = 0; m < n; m++) {
                if ((bits & 1 << m) != 0) { w.pour(1); }
                w.minute();
            }
            joys[bits] = w.joy();
        }
        int most = Arrays.stream(joys).max().getAsInt();
        for (int bits = 0; bits < joys.length; bits++) {
            if (joys[bits] == most) { return what == 0 ? bits : most; }
        }
        return 0;
    }
    int benches(int n, int what) {
        if (off(n, 1, 10) || off(what, 0, 1)) { return -2; }
        List<int[]> found = new ArrayList<>();
        seat(now.copied(), 0, 0, n, found);
        int most = found.stream().mapToInt(f -> f[1]).max().getAsInt();
        int digits = found.stream().filter(f -> f[1] == most).mapToInt(f -> f[0]).min().getAsInt();
        return what == 0 ? digits : most;
    }
    private static void seat(World w, int b, int digits, int n, List<int[]> found) {
        if (b == w.guests.size()) {
            found.add(new int[] {digits, w.copied().behind(n).joy()});
            return;
        }
        Guest g = w.guests.get(b);
        if (!g.in()) { seat(w, b + 1, digits * 10, n, found); return; }
        for (int bench = 2; bench >= 0; bench--) {
            g.bench = bench;
            seat(w, b + 1, digits * 10 + bench + 1, n, found);
        }
    }
    int swap(int n, int what) {
        if (off(n, 0, 40) || off(what, 0, 1)) { return -2; }
        int so = now.copied().behind(n).joy(), most = so, pair = -1;
        for (int two = 55; two >= 1; two--) {
            int a = two / 10, b = two % 10;
            if (a >= b || none(a) || none(b) || !guest(a).in() || !guest(b).in()) { continue; }
            World w = now.copied();
            w.guests.get(a).bench = guest(b).bench;
            w.guests.get(b).bench = guest(a).bench;
            int joy = w.behind(n).joy();
            if (joy > so && joy >= most) { most = joy; pair = two; }
        }
        return what == 0 ? pair : most;
    }
    int logs(int n, int what) {
        if (off(n, 0, 40) || off(what, 0, 1)) { return -2; }
        int most = -1, best = -1;
        for (int k = Math.min(9, now.hut[3]); k >= 0; k--) {
            World w = now.copied();
            for (int i = 0; i < k; i++) { w.log(); }
            int joy = w.behind(n).joy();
            if (joy >= most) { most = joy; best = k; }
        }
        return what == 0 ? best : most;
    }
    int stays(int b, int what) {
        if (none(b)) { return -5; }
        if (off(what, 0, 1)) { return -7; }
        int most = -1, best = -1;
        for (int bench = 2; bench >= 0; bench--) {
            World w = now.copied();
            w.guests.get(b).bench = bench;
            int n = outBehind(w, b);
            if (n > most) { most = n; best = bench; }
        }
        return what == 0 ? best : most;
    }
    private static long part(long above, long below, int part) {
        if (below == 0) { return NO; }
        for (long d = below; d > 1; d--) {
            if (above % d == 0 && below % d == 0) { above /= d; below /= d; }
        }
        return part == 0 ? above : below;
    }
    long share(int b, int n, int part) {
        if (none(b) || off(n, 0, 40) || off(part, 0, 1)) { return NO; }
        World w = now.copied().behind(n);
        return part(w.guests.get(b).joy, w.joy(), part);
    }

    // ---- told minutes

    private static int length(Object row) {
        return row instanceof byte[] b ? b.length : row instanceof short[] s ? s.length : ((int[]) row).length;
    }
    private static int get(Object row, int i) {
        return row instanceof byte[] b ? b[i] : row instanceof short[] s ? s[i] : ((int[]) row)[i];
    }
    private int refused(int s, int b) {
        if (off(s, 0, 3)) { return -2; }
        if (sheets[s] == null) { return -11; }
        if (length(sheets[s]) > 20) { return -2; }
        return none(b) ? -5 : 0;
    }
    private int otherwise(int s, int b, World w) {
        for (int i = 0; i < length(sheets[s]); i++) {
            if (w.copied().behind(i + 1).guests.get(b).warm != get(sheets[s], i)) { return i; }
        }
        return -1;
    }
    private int fits(int s, int b, int n, Function<Integer, World> made, List<Integer> which) {
        int bits = 0;
        for (int v = 0; v < n; v++) {
            if (otherwise(s, b, made.apply(v)) == -1) {
                which.add(v);
                bits |= v < 31 ? 1 << v : 0;
            }
        }
        return bits;
    }
    int judge(int s, int b) { return refused(s, b) != 0 ? refused(s, b) : otherwise(s, b, now); }
    int kinds(int s, int b, int sort) {
        if (refused(s, b) != 0) { return refused(s, b); }
        if (off(sort, 0, 1)) { return -7; }
        return fits(s, b, sort == 0 ? 6 : 10, v -> {
            World w = now.copied();
            w.guests.set(b, guest(b).as(sort == 0 ? v : guest(b).kind));
            if (sort == 1) { w.guests.get(b).more = v; }
            return w;
        }, new ArrayList<>());
    }
    private static int answer(int what, List<Integer> which) {
        return what == 0 ? which.size() : which.isEmpty() ? -1 : which.get(0);
    }
    int states(int s, int b, int what) {
        if (refused(s, b) != 0) { return refused(s, b); }
        if (off(what, 0, 2)) { return -7; }
        List<Integer> which = new ArrayList<>();
        int bits = fits(s, b, what == 0 ? 4 : 300, v -> {
            World w = now.copied();
            if (what == 0) { w.guests.get(b).bench = v; } else { w.guests.get(b).warm = v; }
            return w;
        }, which);
        return what == 0 ? bits : answer(what - 1, which);
    }
    int steams(int s, int b, int what) {
        if (refused(s, b) != 0) { return refused(s, b); }
        if (off(what, 0, 1)) { return -7; }
        List<Integer> which = new ArrayList<>();
        fits(s, b, 100, v -> { World w = now.copied(); w.hut[2] = v; return w; }, which);
        return answer(what, which);
    }
    int whose(int s) {
        int refused = refused(s, 0);
        if (refused != 0 && refused != -5) { return refused; }
        int bits = 0;
        for (int b = 0; b < now.guests.size(); b++) { bits |= judge(s, b) == -1 ? 1 << b : 0; }
        return bits;
    }
    int laws(int s, int b) {
        if (refused(s, b) != 0) { return refused(s, b); }
        return fits(s, b, laws.size(), v -> { World w = now.copied(); w.law = laws.get(v); return w; }, new ArrayList<>());
    }
    int film(int s, int b, int n) {
        if (off(s, 0, 3)) { return -2; }
        if (none(b)) { return -5; }
        if (off(n, 0, 20)) { return -7; }
        short[] row = new short[n];
        for (int i = 0; i < n; i++) { row[i] = (short) now.copied().behind(i + 1).guests.get(b).warm; }
        sheets[s] = row;
        return n;
    }

    // ---- pouring by lots

    private World poured(int seed) {
        World w = now.copied();
        long lot = seed + 1;
        for (int m = 0; m < 8; m++) {
            lot = lot * 48271 % 2147483647;
            if (lot % 4 != 0) { w.pour((int) (lot % 4)); }
            w.minute();
        }
        return w;
    }
    int drawn(int seed, int what) {
        if (off(seed, 0, 99999) || off(what, 0, 1)) { return -2; }
        return what == 0 ? poured(seed).joy() : poured(seed).inBits();
    }
    long odds(int seed, int seeds, int least, int part) {
        if (off(seed, 0, 99999) || off(seeds, 1, 40) || off(least, 0, 9999) || off(part, 0, 1)) { return NO; }
        int n = 0;
        for (int i = seed; i < seed + seeds; i++) { n += poured(i).joy() >= least ? 1 : 0; }
        return part(n, seeds, part);
    }
    int image() { image = now.copied(); return image.guests.size(); }
    int back() {
        if (image == null) { return -3; }
        now = image.copied();
        return now.guests.size();
    }

    // ---- the host

    int sheet(int s, int sort, int n) {
        if (off(s, 0, 3) || off(sort, -1, 2) || sort >= 0 && n > 40) { return -2; }
        if (sort >= 0 && n < 0) { return -14; }
        sheets[s] = sort == -1 ? null : sort == 0 ? new byte[n] : sort == 1 ? new short[n] : new int[n];
        return 1;
    }
    int cell(int s, int i, int v) {
        if (off(s, 0, 3)) { return -2; }
        Object row = sheets[s];
        if (row == null) { return -11; }
        if (i < 0 || i >= length(row)) { return -12; }
        if (row instanceof byte[] b) { b[i] = (byte) v; }
        if (row instanceof short[] h) { h[i] = (short) v; }
        if (row instanceof int[] w) { w[i] = v; }
        return 1;
    }
    int copy(int s, int i, int other, int j, int n) {
        if (off(s, 0, 3) || off(other, 0, 3)) { return -2; }
        if (sheets[s] == null || sheets[other] == null) { return -11; }
        if (sheets[s].getClass() != sheets[other].getClass()) { return -13; }
        try {
            System.arraycopy(sheets[s], i, sheets[other], j, n);
        } catch (IndexOutOfBoundsException e) {
            return -12;
        }
        return n;
    }
    int bathersBy(int s, int sort, int from, int n) {
        if (off(s, 0, 3) || off(sort, 0, 2) || off(n, 0, 6)) { return -2; }
        Object row = sheets[s];
        if (row == null) { return -11; }
        if (sort != (row instanceof byte[] ? 0 : row instanceof short[] ? 1 : 2)) { return -13; }
        int came = 0;
        for (long at = from; at < from + 2L * n; at += 2) {
            if (at < 0 || at + 1 >= length(row)) { return -12; }
            came += bather(get(row, (int) at), get(row, (int) at + 1)) >= 0 ? 1 : 0;
        }
        return came;
    }
    int taken(int i, int kind) {
        if (off(kind, 0, 6)) { return -2; }
        if (off(i, 0, 11)) { return -12; }
        if (none(i % 6)) { return -11; }
        if (i >= 6) { return kind == 6 ? guest(i - 6).warm : -13; }
        Class<?> wanted = kind == 6 ? Model.class : Guest.made(kind).getClass();
        return wanted.isInstance(guest(i)) ? i : -13;
    }
}
