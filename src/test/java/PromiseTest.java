/** Each promise of the document by answers reckoned by hand: ordinary inputs, edges, wrong inputs. */
public final class PromiseTest {
    private static final int BAD = -2, STATE = -3, FULL = -4;
    private static final long NO = -4611686018427387904L;
    private static int wrong;
    private static int promise;

    private static void due(String call, long got, long want) {
        if (got != want) {
            wrong++;
            System.out.println("promise " + promise + ": " + call + " answered " + got + ", due is " + want);
        }
    }

    private static SteamOnBench fresh() { return new SteamOnBench(); }

    private static void write(SteamOnBench x, String text) {
        for (int i = 0; i < text.length(); i++) { x.feed(1, text.charAt(i), 0, 0, 0, 0); }
    }
    private static int text(SteamOnBench x, String text) { write(x, text); return x.text(); }

    /** A new hut under the law of such a text. */
    private static SteamOnBench under(String feels, String bears, String glad) {
        SteamOnBench x = fresh();
        int t = text(x, "feels " + feels + ";bears " + bears + ";glad " + glad + ";");
        if (t != 1 || x.force(t) != 0) { due("text " + feels + " " + bears + " " + glad, t, 1); }
        return x;
    }
    private static void sheet(SteamOnBench x, int s, int sort, int... numbers) {
        x.sheet(s, sort, numbers.length);
        for (int i = 0; i < numbers.length; i++) { x.cell(s, i, numbers[i]); }
    }
    private static void hut(SteamOnBench x, int minute, int stones, int steam, int wood) {
        due("hut(0)", x.hut(0), minute);
        due("hut(1)", x.hut(1), stones);
        due("hut(2)", x.hut(2), steam);
        due("hut(3)", x.hut(3), wood);
    }

    private static void theHut() {
        promise = 1;
        SteamOnBench x = fresh();
        hut(x, 0, 200, 0, 5);
        for (int what = 0; what < 6; what++) { due("count " + what, x.count(what), what == 3 ? 1 : 0); }
        for (int s = 0; s < 4; s++) { due("cell", x.cell(s, 0, 0), -11); }
        due("back", x.back(), STATE);

        promise = 2;
        x.bather(0, 0);
        x.bather(0, 3);
        x.put(0, 2, 7);
        x.put(1, 2, 5);
        x.feed(2, 32, 32, 0, 0, 0);
        due("BATHERS", x.count(0), 2);
        due("IN", x.count(1), 1);
        due("JOY of all, of who is OUT, too", x.count(2), 12);
        due("bytes", x.count(5), 2);
        due("TEXTS", text(x, "feels 1;bears 2;glad 3;"), 1);
        due("TEXTS", x.count(3), 2);
        x.force(1);
        due("THE LAW", x.count(4), 1);
        due("count", x.count(-1), BAD);
        due("count", x.count(6), BAD);

        promise = 3;
        x = fresh();
        due("fire", x.fire(0, 999), 0);
        due("fire", x.fire(0, 1000), BAD);
        due("fire", x.fire(0, -1), BAD);
        due("fire", x.fire(1, 999), 200);
        due("fire", x.fire(1, 1000), BAD);
        due("fire", x.fire(2, 99), 0);
        due("fire", x.fire(2, 100), BAD);
        due("fire", x.fire(3, 99), 5);
        due("fire", x.fire(3, 100), BAD);
        due("fire", x.fire(-1, 0), BAD);
        due("fire", x.fire(4, 0), BAD);
        hut(x, 999, 999, 99, 99);
        due("fire", x.fire(2, 0), 99);

        promise = 4;
        hut(x, 999, 999, 0, 99);
        due("hut", x.hut(-1), BAD);
        due("hut", x.hut(4), BAD);
    }

    private static void tape() {
        promise = 5;
        SteamOnBench x = fresh();
        due("n", x.feed(0, 0, 0, 0, 0, 0), BAD);
        due("n", x.feed(6, 0, 0, 0, 0, 0), BAD);
        for (int place = 0; place < 5; place++) {
            int[] b = new int[5];
            b[place] = 256;
            due("byte " + place, x.feed(1, b[0], b[1], b[2], b[3], b[4]), BAD);
            b[place] = -1;
            due("byte " + place, x.feed(5, b[0], b[1], b[2], b[3], b[4]), BAD);
        }
        for (int i = 1; i <= 31; i++) { due("feed", x.feed(5, 32, 32, 32, 32, 32), 5 * i); }
        due("feed", x.feed(3, 255, 0, 255, 0, 0), 158);
        due("no room for all", x.feed(3, 32, 32, 32, 32, 32), FULL);
        due("none came", x.count(5), 158);
        due("BAD ahead of FULL", x.feed(3, 32, 32, 32, 32, 256), BAD);
        due("feed", x.feed(2, 32, 32, 32, 32, 32), 160);
        due("feed", x.feed(1, 32, 32, 32, 32, 32), FULL);
        x = fresh();
        write(x, "feels 1");
        due("in order", x.feed(5, ';', 'b', 'e', 'a', 'r'), 12);
        due("in order", x.feed(4, 's', '2', '3', ';', 'x'), 16);
        due("in order", text(x, "glad 4;"), 1);
        x.force(1);
        x.bather(0, 0);
        due("bears", x.asks(1, 0), 23);
    }

    private static void fault(String text, int place) { due("text " + text, text(fresh(), text), -100 - place); }

    private static void texts() {
        promise = 6;
        fault("", 0);
        fault("   ", 3);
        fault("a", 0);
        fault("bears 1;", 0);
        fault("feels", 5);
        fault("feels ", 6);
        fault("feels ;", 6);
        fault("feels 1", 7);
        fault("feels 1;", 8);
        fault("feels 1; glad", 9);
        fault("feels 1;bears 1;glad 1", 22);
        fault("feels 1;bears 1;glad 1; ;", 24);
        fault("feels 1;bears 1;glad 1;feels", 23);
        fault("feels 12345;", 6);
        fault("feels 00001;", 6);
        fault("feels ) 12345;", 6);
        fault("feels 1 1;", 8);
        fault("feels 1 + wet;", 10);
        fault("feels 1 + feels;", 10);
        fault("feels 1 + not 1;", 10);
        fault("feels 1 < 2 < 3;", 12);
        fault("feels 1 = 2 < 3;", 12);
        fault("feels 1 or;", 10);
        fault("feels 1 and ;", 12);
        fault("feels (1;", 8);
        fault("feels 1);", 7);
        fault("feels ();", 7);
        fault("feels * 1;", 6);
        fault("feels + 1;", 6);
        fault("feels Warm;", 6);
        fault("feels 1 > 2;", 8);
        fault("feels\t1;", 5);
        fault("feels 1" + (char) 233 + ";", 7);
        fault("feels 1" + (char) 0 + ";", 7);
        fault("feels warmsteam;", 6);
        fault("feels warmz;", 6);
        fault("feels (warma;", 7);
        fault("peels 1;", 0);
        fault("feels 1 er 1;", 8);
        fault("feels 1a;", 7);
        fault("feels ((((((1;", 11);
        fault("feels not not not not not not 1;", 26);
        fault("feels ------1;", 11);
        fault("feels (not (not -(1;", 17);
        fault("feels (((((1)))))+(((((1)))))*-----1;bears (-(-(-", 48);
        due("five open", text(fresh(), "feels (((((1))))) + -----1;bears not not not not not 1 and(not(not-1));glad-(1)-(-(-(1)));"), 1);
        due("no blanks needed", text(fresh(), "feels1or2;bears3;glad4;"), 1);
        due("blanks", text(fresh(), "\n feels\n1\n;bears 1 ;glad 1 ; \n"), 1);
        SteamOnBench x = fresh();
        for (int t = 1; t <= 5; t++) { due("text", text(x, "feels 1;bears 2;glad 3;"), t); }
        due("FULL ahead of the FAULT", text(x, "wet"), FULL);
        due("the tape stays", x.count(5), 3);
        x = fresh();
        text(x, "wet");
        due("the tape is empty by a FAULT", x.count(5), 0);
        due("TEXTS", x.count(3), 1);
        text(x, "feels 1;bears 2;glad 3;");
        due("the tape is empty", x.count(5), 0);

        promise = 7;
        due("force", x.force(1), 0);
        due("force", x.force(0), 1);
        due("force", x.force(2), BAD);
        due("force", x.force(-1), BAD);
        due("THE LAW", x.count(4), 0);
    }

    private static void value(String sum, int want) {
        SteamOnBench x = under(sum, "0", "0");
        x.fire(0, 11);
        x.fire(1, 22);
        x.fire(2, 33);
        x.bather(7, 442);
        due("value of " + sum, x.asks(0, 0), want);
    }

    private static void asked() {
        promise = 8;
        value("minute", 11);
        value("stones", 22);
        value("steam", 33);
        value("warm", 44);
        value("more", 7);
        value("bench", 2);
        value("1 + 2 * 3", 7);
        value("(1 + 2) * 3", 9);
        value("9 - 4 - 3", 2);
        value("9 - (4 - 3)", 8);
        value("-2 * 3 + 1", -5);
        value("- - 5", 5);
        value("2 - -3", 5);
        value("1 < 2", 1);
        value("2 < 2", 0);
        value("2 = 1 + 1", 1);
        value("2 = 3", 0);
        value("not 5 = 5", 0);
        value("not 0", 1);
        value("not 7", 0);
        value("not not 7", 1);
        value("5 and 7", 1);
        value("1 and 1", 1);
        value("5 and 0", 0);
        value("0 or 9", 1);
        value("0 or 0", 0);
        value("1 or 0 and 0", 1);
        value("(1 or 0) and 0", 0);
        value("not 0 and 0", 0);
        value("-1 and 1", 1);
        value("0010", 10);
        value("99", 99);
        value("100", 99);
        value("-100", -99);
        value("9999 * 9999", 99);
        value("0or1and1=0+1*(".repeat(5) + "0or1and1=0+1*1" + ")".repeat(5), 1);
        value("0or1and1=0+1*(".repeat(5) + "0or1and1=0+1*2" + ")".repeat(5), 0);
        value("9999 * 9999 * 9999", -99);
        SteamOnBench x = fresh();
        due("160 bytes", text(x, "feels 0;bears  " + "1+".repeat(68) + "1;glad 0;"), 1);
        x.force(1);
        x.bather(0, 0);
        due("160 bytes", x.asks(1, 0), 69);
        x = under("1", "1000", "-100");
        x.bather(19, 3);
        due("bound", x.asks(1, 0), 999);
        due("bound", x.asks(2, 0), -99);
        due("part", x.asks(3, 0), -1000);
        due("part", x.asks(-1, 0), -1000);
        due("none", x.asks(0, 1), -1000);
        due("none", x.asks(0, -1), -1000);
        x = under("bench", "0 - 1", "steam + 1");
        x.bather(0, 3);
        x.fire(2, 98);
        due("OUT", x.asks(0, 0), 0);
        due("bound", x.asks(1, 0), 0);
        due("glad", x.asks(2, 0), 99);
        x = fresh();
        x.bather(25, 501);
        x.fire(2, 4);
        due("the first text, of what a BATHER of any KIND is told", x.asks(0, 0), 6);
        due("the first text", x.asks(1, 0), 60);
        due("the first text", x.asks(2, 0), 2);
    }

    private static void bathers() {
        promise = 9;
        SteamOnBench x = fresh();
        due("kind", x.bather(60, 0), BAD);
        due("kind", x.bather(-1, 0), BAD);
        due("bench", x.bather(0, 4), BAD);
        due("warm", x.bather(0, 10000), BAD);
        due("warm", x.bather(0, -1), BAD);
        for (int b = 0; b < 6; b++) { due("bather", x.bather(59, 9993), b); }
        due("BAD ahead of FULL", x.bather(60, 0), BAD);
        due("FULL", x.bather(0, 0), FULL);
        due("kind", x.told(5, 3), 5);
        due("more", x.told(5, 4), 9);
        due("warm", x.told(5, 1), 999);
        due("bench", x.told(5, 0), 3);
        due("joy", x.told(5, 2), 0);

        promise = 10;
        due("bench", x.put(1, 0, 0), 3);
        due("bench", x.put(1, 0, 3), 0);
        due("bench", x.put(1, 0, 4), -7);
        due("warm", x.put(1, 1, 0), 999);
        due("warm", x.put(1, 1, 1000), -7);
        due("joy", x.put(1, 2, 999), 0);
        due("joy", x.put(1, 2, 1000), -7);
        due("v", x.put(1, 2, -1), -7);
        due("what", x.put(1, 3, 0), -7);
        due("what", x.put(1, -1, 0), -7);
        due("none ahead", x.put(6, 3, 0), -5);
        due("none", x.put(-1, 0, 0), -5);
        due("warm", x.told(1, 1), 0);
        due("joy", x.told(1, 2), 999);
        due("no steam by it", x.hut(2), 0);
    }

    private static void ofKind(SteamOnBench x, int kind, int bench, int feels, int bears, int glad) {
        int b = x.count(0);
        x.bather(10 * kind + 4, bench);
        due("FEELS of kind " + kind + " on " + bench, x.told(b, 5), feels);
        due("BEARS of kind " + kind + " on " + bench, x.told(b, 6), bears);
        due("GLAD of kind " + kind + " on " + bench, x.told(b, 7), glad);
        x.back();
    }

    private static void kindsTold() {
        promise = 11;
        SteamOnBench x = under("7", "61", "5");
        x.bather(0, 0);
        x.fire(2, 10);
        x.fire(1, 300);
        x.image();
        ofKind(x, 0, 2, 7, 61, 5);
        ofKind(x, 1, 2, 7, 101, 9);
        ofKind(x, 1, 1, 7, 101, 5);
        ofKind(x, 1, 3, 7, 101, 5);
        ofKind(x, 2, 0, 3, 30, 5);
        ofKind(x, 2, 1, 7, 30, 5);
        ofKind(x, 2, 3, 7, 30, 5);
        ofKind(x, 3, 2, 14, 101, 4);
        ofKind(x, 3, 0, 14, 101, 2);
        ofKind(x, 4, 0, -1, 30, 7);
        ofKind(x, 4, 2, 3, 30, 7);
        ofKind(x, 4, 3, 3, 30, 6);
        ofKind(x, 5, 2, 4, 61, 5);
        x.fire(2, 9);
        x.fire(1, 301);
        x.image();
        ofKind(x, 3, 0, 7, 101, 2);
        ofKind(x, 5, 0, 4, 61, 99);
        due("none ahead", x.told(1, 8), -5000);
        due("none", x.told(-1, 0), -5000);
        due("what", x.told(0, 8), -7000);
        due("what", x.told(0, -1), -7000);
        x = under("-7", "999", "-5");
        x.fire(2, 10);
        x.image();
        ofKind(x, 2, 0, -3, 499, -5);
        ofKind(x, 3, 0, -14, 1039, -2);
        x = under("500", "2000", "-500");
        x.fire(2, 99);
        x.image();
        ofKind(x, 3, 0, 198, 1039, -49);
        ofKind(x, 1, 2, 99, 1039, -95);
    }

    private static void heat() {
        promise = 12;
        SteamOnBench x = fresh();
        due("pour", x.pour(3), 9);
        hut(x, 0, 170, 9, 5);
        due("pour", x.pour(1), 12);
        x.fire(1, 59);
        due("too cold", x.pour(3), STATE);
        due("still", x.hut(1), 59);
        due("pour", x.pour(2), 18);
        x.fire(1, 60);
        due("pour", x.pour(3), 27);
        due("stones", x.hut(1), 30);
        x.fire(1, 19);
        due("pour", x.pour(1), STATE);
        x.fire(1, 20);
        x.fire(2, 98);
        due("at most", x.pour(1), 99);
        due("pour", x.pour(0), BAD);
        due("BAD ahead of STATE", x.pour(4), BAD);
        due("pour", x.pour(-1), BAD);

        promise = 13;
        x = fresh();
        due("stoke", x.stoke(), 250);
        hut(x, 0, 250, 0, 4);
        x.fire(1, 960);
        due("at most", x.stoke(), 999);
        x.fire(3, 0);
        due("no wood", x.stoke(), STATE);
        hut(x, 0, 999, 0, 0);

        promise = 14;
        x = fresh();
        x.bather(0, 0);
        x.fire(2, 2);
        due("to a bench", x.door(0, 2), 0);
        due("no door", x.hut(2), 2);
        due("out", x.door(0, 3), 2);
        due("the door", x.hut(2), 1);
        due("there", x.door(0, 3), STATE);
        due("to the lowest", x.door(0, 0), 3);
        x.fire(2, 1);
        x.put(0, 0, 3);
        due("in", x.door(0, 1), 3);
        due("the door", x.hut(2), 0);
        due("out", x.door(0, 3), 1);
        due("0 at least", x.hut(2), 0);
        due("to", x.door(0, 4), -7);
        due("to", x.door(0, -1), -7);
        due("none ahead", x.door(1, 4), -5);
        due("none", x.door(-1, 0), -5);
        due("bench", x.told(0, 0), 3);
    }

    private static void minutes() {
        promise = 15;
        SteamOnBench x = fresh();
        x.bather(0, 592);
        x.bather(0, 0);
        x.bather(0, 33);
        x.bather(0, 600);
        x.fire(2, 5);
        due("goes out", x.minute(), 9);
        hut(x, 1, 198, 2, 5);
        due("warm", x.told(0, 1), 67);
        due("joy", x.told(0, 2), 3);
        due("bench", x.told(0, 0), 3);
        due("less steam for the next", x.told(1, 1), 5);
        due("less steam for the next", x.told(1, 2), 2);
        due("OUT is less warm", x.told(2, 1), 0);
        due("no joy", x.told(2, 2), 0);
        due("minute", x.minute(), 0);
        due("OUT is less warm", x.told(0, 1), 62);
        x = under("5", "100 - warm", "warm");
        x.bather(0, 450);
        x.bather(0, 460);
        due("BEARS told behind", x.minute(), 2);
        due("GLAD told ahead", x.told(0, 2), 45);
        x = under("99", "999", "99");
        x.bather(0, 9500);
        x.put(0, 2, 950);
        x.fire(1, 1);
        due("minute", x.minute(), 0);
        due("warm at most", x.told(0, 1), 999);
        due("joy at most", x.told(0, 2), 999);
        hut(x, 1, 0, 0, 5);
        x = under("-99", "0", "-99");
        x.bather(0, 500);
        due("not more than 0", x.minute(), 0);
        due("warm at least", x.told(0, 1), 0);
        due("joy at least", x.told(0, 2), 0);
        x.fire(0, 998);
        due("minute", x.minute(), 0);
        due("the last", x.minute(), STATE);
        hut(x, 999, 196, 0, 5);
        x = under("1", "50", "0");
        x.bather(0, 500);
        x.bather(40, 0);
        x.minute();
        due("TALKER, as many are IN then", x.told(1, 2), 1);

        promise = 16;
        x = fresh();
        x.bather(0, 100);
        x.fire(2, 3);
        due("IN", x.run(2, 0), 1);
        due("JOY", x.run(2, 1), 1);
        due("STONES", x.run(2, 2), 196);
        due("STEAM", x.run(2, 3), 1);
        due("WARM", x.run(2, 10), 17);
        due("JOY", x.run(2, 20), 1);
        due("now", x.run(0, 10), 10);
        x.door(0, 3);
        due("none IN", x.run(3, 0), 0);
        x.put(0, 0, 0);
        x.fire(2, 3);
        due("n", x.run(-1, 0), BAD);
        due("n", x.run(41, 0), BAD);
        for (int what : new int[] {-1, 4, 9, 11, 15, 16, 19, 21, 26, Integer.MIN_VALUE, Integer.MAX_VALUE}) {
            due("what " + what, x.run(1, what), BAD);
        }
        hut(x, 0, 200, 3, 5);
        due("in thought", x.told(0, 1), 10);
        x = under("minute = 1001", "999", "0");
        x.bather(0, 0);
        x.fire(0, 990);
        due("in thought it passes 999", x.run(40, 10), 1);

        x = under("more", "999", "1");
        for (int b = 0; b < 6; b++) { x.bather(b, 0); }
        due("of all", x.run(40, 1), 240);
        due("of the sixth", x.run(40, 15), 200);

        promise = 17;
        x = under("1", "39", "0");
        x.bather(0, 0);
        x.bather(10, 0);
        x.bather(0, 3);
        due("leaves", x.leaves(0), 40);
        due("not by then", x.leaves(1), 40);
        due("OUT", x.leaves(2), 0);
        due("none", x.leaves(3), -5);
        due("none", x.leaves(-1), -5);
        x.put(0, 1, 38);
        due("leaves", x.leaves(0), 2);
        due("in thought", x.told(0, 0), 0);

        promise = 18;
        due("together", x.together(), 1);
        x.put(0, 1, 39);
        due("together", x.together(), 0);
        x.put(0, 1, 0);
        due("together", x.together(), 39);
        x.door(0, 3);
        x.door(1, 3);
        due("together", x.together(), 40);
        x = under("1", "40", "0");
        x.bather(0, 0);
        due("not by then", x.leaves(0), -1);
        due("together", x.together(), 40);
    }

    private static void best() {
        promise = 19;
        SteamOnBench x = under("0", "999", "steam");
        due("of none", x.when(8, 0), 0);
        x.bather(0, 0);
        due("when", x.when(1, 0), 1);
        due("JOY", x.when(1, 1), 3);
        due("when", x.when(2, 0), 3);
        due("JOY", x.when(2, 1), 8);
        x.fire(1, 20);
        due("of like ones the least", x.when(2, 0), 1);
        due("JOY", x.when(2, 1), 5);
        x.fire(1, 19);
        due("it can't be", x.when(8, 0), 0);
        due("n", x.when(0, 0), BAD);
        due("n", x.when(9, 0), BAD);
        due("what", x.when(1, 2), BAD);
        due("what", x.when(1, -1), BAD);
        x = under("0", "999", "0 - 1 + 2 * (minute = 2) * steam");
        x.bather(0, 0);
        due("only ahead of the first three", x.when(4, 0), 7);
        due("steam 3, 5, 7 then", x.when(3, 1), 13);

        promise = 20;
        x = fresh();
        due("of none", x.benches(1, 0), 0);
        x = under("0", "999", "bench");
        x.bather(0, 0);
        x.bather(0, 3);
        x.bather(0, 1);
        due("benches", x.benches(1, 0), 303);
        due("JOY", x.benches(1, 1), 4);
        due("JOY", x.benches(10, 1), 40);
        due("in thought", x.told(0, 0), 0);
        x.force(0);
        due("of like ones the first", x.benches(1, 0), 101);
        due("JOY", x.benches(1, 1), 0);
        due("n", x.benches(0, 0), BAD);
        x = under("0", "999", "(more = bench) + (more = 3)");
        for (int more : new int[] {2, 0, 3, 1, 2, 0}) { x.bather(more, more == 3 ? 3 : 0); }
        due("each its own", x.benches(2, 0), 310231);
        due("JOY, none by who is OUT", x.benches(2, 1), 10);
        due("n", x.benches(11, 0), BAD);
        due("what", x.benches(1, 2), BAD);

        promise = 21;
        x = under("0", "999", "bench * more");
        due("of none", x.swap(1, 0), -1);
        x.bather(1, 2);
        x.bather(5, 0);
        due("swap", x.swap(1, 0), 1);
        due("JOY", x.swap(1, 1), 10);
        due("no minute", x.swap(0, 0), -1);
        x.bather(9, 3);
        due("OUT doesn't change", x.swap(1, 0), 1);
        x.bather(5, 0);
        due("of like ones the first", x.swap(40, 0), 1);
        x.put(1, 0, 3);
        due("the lesser first", x.swap(1, 0), 3);
        x.put(0, 0, 0);
        due("not more", x.swap(1, 0), -1);
        due("as so", x.swap(1, 1), 0);
        x.put(1, 0, 1);
        x.put(3, 0, 0);
        due("as so", x.swap(1, 1), 5);
        x = under("0", "999", "bench * more");
        x.bather(0, 0);
        x.bather(1, 1);
        x.bather(2, 0);
        due("10 times the one", x.swap(2, 0), 12);
        due("n", x.swap(-1, 0), BAD);
        due("n", x.swap(41, 0), BAD);
        due("what", x.swap(1, 2), BAD);

        promise = 22;
        x = fresh();
        x.bather(50, 0);
        due("logs", x.logs(1, 0), 3);
        due("JOY", x.logs(1, 1), 99);
        due("no minute", x.logs(0, 0), 0);
        x.fire(3, 2);
        due("too little wood", x.logs(1, 0), 0);
        due("in thought", x.hut(3), 2);
        due("n", x.logs(-1, 0), BAD);
        due("n", x.logs(41, 0), BAD);
        due("what", x.logs(1, -1), BAD);
        due("what", x.logs(1, 2), BAD);
        x.fire(3, 3);
        due("all the wood", x.logs(1, 0), 3);
        x = under("0", "999", "9 * (449 < stones)");
        x.bather(0, 0);
        x.fire(1, 0);
        x.fire(3, 99);
        due("logs", x.logs(1, 0), 9);
        x = under("0", "999", "9 * (499 < stones)");
        x.bather(0, 0);
        x.fire(1, 0);
        x.fire(3, 99);
        due("9 at most", x.logs(1, 0), 0);

        promise = 23;
        x = under("10 * bench + 1", "20", "0");
        x.bather(0, 2);
        x.bather(0, 3);
        for (int b = 0; b < 2; b++) {
            due("stays", x.stays(b, 0), 0);
            due("how many", x.stays(b, 1), 21);
        }
        due("in thought", x.told(1, 0), 3);
        x.put(0, 1, 20);
        due("of like ones the highest", x.stays(0, 0), 2);
        due("how many", x.stays(0, 1), 1);
        due("none", x.stays(2, 2), -5);
        due("what", x.stays(0, 2), -7);
        x = fresh();
        x.bather(0, 3);
        x.fire(2, 1);
        due("the door not told: 1 + 1, 1, 1, ..", x.stays(0, 1), 41);
        x.put(0, 1, 59);
        due("the door not told", x.stays(0, 1), 1);

        promise = 24;
        x = under("0", "999", "more");
        x.bather(2, 0);
        x.bather(4, 0);
        x.bather(0, 0);
        due("above", x.share(0, 3, 0), 1);
        due("below", x.share(0, 3, 1), 3);
        due("above", x.share(1, 1, 0), 2);
        due("above", x.share(2, 1, 0), 0);
        due("below", x.share(2, 1, 1), 1);
        due("that is 0", x.share(0, 0, 0), NO);
        x.put(0, 2, 6);
        due("now", x.share(0, 0, 1), 1);
        due("none", x.share(3, 1, 0), NO);
        due("none", x.share(-1, 1, 0), NO);
        due("n", x.share(0, 41, 0), NO);
        due("n", x.share(0, -1, 0), NO);
        due("part", x.share(0, 1, 2), NO);
    }

    private static void toldMinutes() {
        promise = 25;
        SteamOnBench x = under("2", "999", "0");
        due("sheet", x.judge(4, 9), BAD);
        due("sheet", x.judge(-1, 0), BAD);
        due("missing", x.judge(0, 9), -11);
        x.sheet(0, 2, 21);
        due("more than 20", x.judge(0, 9), BAD);
        x.sheet(0, 2, 20);
        due("none", x.judge(0, 0), -5);
        x.bather(2, 101);
        for (int i = 0; i < 20; i++) { x.cell(0, i, 12 + 2 * i); }
        due("judge", x.judge(0, 0), -1);
        x.cell(0, 19, 51);
        due("judge", x.judge(0, 0), 19);
        x.cell(0, 0, 11);
        due("judge", x.judge(0, 0), 0);
        x.sheet(1, 0, 0);
        due("nothing told", x.judge(1, 0), -1);
        sheet(x, 1, 0, 130);
        x.put(0, 1, 128);
        due("bytes are of a sign", x.judge(1, 0), 0);
        sheet(x, 1, 1, 130 + 65536);
        due("shorts", x.judge(1, 0), -1);

        promise = 26;
        x.put(0, 1, 10);
        sheet(x, 0, 2, 12, 14, 16);
        due("kinds", x.kinds(0, 0, 0), 47);
        due("MORE", x.kinds(0, 0, 1), 1023);
        x.bather(52, 101);
        due("kinds", x.kinds(0, 1, 0), 47);
        due("MORE", x.kinds(0, 1, 1), 4);
        due("in thought", x.told(1, 3), 5);
        due("in thought", x.told(1, 4), 2);
        due("sort", x.kinds(0, 0, 2), -7);
        due("sort", x.kinds(0, 0, -1), -7);
        due("none ahead", x.kinds(0, 2, 2), -5);
        due("missing", x.kinds(3, 2, 2), -11);
        due("sheet", x.kinds(4, 2, 2), BAD);
        x.sheet(2, 2, 21);
        due("more than 20", x.kinds(2, 2, 2), BAD);

        promise = 27;
        x = under("1 + bench", "999", "0");
        x.bather(0, 101);
        sheet(x, 0, 1, 12, 14);
        due("BENCHES", x.states(0, 0, 0), 2);
        due("how many", x.states(0, 0, 1), 1);
        due("least", x.states(0, 0, 2), 10);
        x.sheet(1, 1, 0);
        due("BENCHES", x.states(1, 0, 0), 15);
        due("how many", x.states(1, 0, 1), 300);
        due("least", x.states(1, 0, 2), 0);
        sheet(x, 2, 1, 500);
        due("BENCHES", x.states(2, 0, 0), 0);
        due("how many", x.states(2, 0, 1), 0);
        due("least", x.states(2, 0, 2), -1);
        sheet(x, 2, 1, 5, 0, 0);
        due("OUT, too", x.states(2, 0, 0), 8);
        x.put(0, 0, 3);
        sheet(x, 2, 1, 0);
        due("how many", x.states(2, 0, 1), 6);
        due("least", x.states(2, 0, 2), 0);
        sheet(x, 2, 1, 294);
        due("the last", x.states(2, 0, 2), 299);
        sheet(x, 2, 1, 295);
        due("past it", x.states(2, 0, 1), 0);
        due("what", x.states(0, 0, 3), -7);
        due("what", x.states(0, 0, -1), -7);
        due("none ahead", x.states(0, 1, 3), -5);
        due("missing", x.states(3, 1, 3), -11);
        due("sheet", x.states(-1, 1, 3), BAD);

        promise = 28;
        x = fresh();
        x.bather(0, 0);
        sheet(x, 0, 1, 4);
        due("how many", x.steams(0, 0, 0), 1);
        due("least", x.steams(0, 0, 1), 3);
        sheet(x, 0, 1, 100);
        due("bound of feels", x.steams(0, 0, 0), 0);
        due("least", x.steams(0, 0, 1), -1);
        sheet(x, 0, 1, 99);
        due("how many: 98, 99", x.steams(0, 0, 0), 2);
        due("least", x.steams(0, 0, 1), 98);
        x.sheet(0, 1, 0);
        due("all", x.steams(0, 0, 0), 100);
        due("what", x.steams(0, 0, 2), -7);
        due("none ahead", x.steams(0, 1, 2), -5);
        due("missing", x.steams(1, 1, 2), -11);
        due("sheet", x.steams(4, 1, 2), BAD);

        promise = 29;
        x = under("2", "999", "0");
        sheet(x, 0, 2, 12);
        due("of none", x.whose(0), 0);
        x.bather(0, 100);
        x.bather(54, 100);
        x.bather(52, 102);
        due("whose", x.whose(0), 5);
        for (int b = 3; b < 6; b++) { x.bather(0, b * 50); }
        due("whose, of six", x.whose(0), 5);
        sheet(x, 0, 2, 27);
        due("the last", x.whose(0), 32);
        sheet(x, 0, 2, 12);
        due("missing", x.whose(1), -11);
        due("sheet", x.whose(4), BAD);
        x.sheet(0, 2, 21);
        due("more than 20", x.whose(0), BAD);

        promise = 30;
        x = fresh();
        x.bather(0, 0);
        text(x, "feels 1;bears 0;glad 0;");
        text(x, "feels 2;bears 9;glad 0;");
        text(x, "feels 1;bears 9;glad 0;");
        sheet(x, 0, 2, 1, 2);
        due("laws", x.laws(0, 0), 9);
        due("THE LAW stays", x.count(4), 0);
        x.cell(0, 0, 2);
        x.cell(0, 1, 4);
        due("laws", x.laws(0, 0), 4);
        due("none", x.laws(0, 1), -5);
        due("missing", x.laws(1, 1), -11);
        due("sheet", x.laws(4, 1), BAD);
        x.sheet(0, 2, 21);
        due("more than 20", x.laws(0, 1), BAD);

        promise = 31;
        x = under("2", "13", "0");
        x.bather(0, 100);
        x.sheet(0, 2, 40);
        due("film", x.film(0, 0, 4), 4);
        due("its size", x.cell(0, 4, 0), -12);
        due("as it is", x.judge(0, 0), -1);
        sheet(x, 1, 1, 12, 14, 9, 4);
        due("the same by hand", x.judge(1, 0), -1);
        due("shorts", x.copy(0, 0, 1, 0, 4), 4);
        due("as it is", x.judge(1, 0), -1);
        due("in thought", x.told(0, 1), 10);
        due("film", x.film(2, 0, 20), 20);
        due("film", x.film(0, 0, 0), 0);
        due("empty", x.cell(0, 0, 0), -12);
        due("n", x.film(0, 0, 21), -7);
        due("n", x.film(0, 0, -1), -7);
        due("none ahead", x.film(0, 1, 21), -5);
        due("sheet ahead", x.film(4, 1, 21), BAD);
        due("they change nothing", x.judge(0, 0), -1);
    }

    private static void lots() {
        promise = 32;
        SteamOnBench x = under("0", "999", "steam");
        x.bather(0, 0);
        x.bather(0, 3);
        due("lots 3 2 2 1 1 3 1 1", x.drawn(0, 0), 185);
        due("IN", x.drawn(0, 1), 1);
        hut(x, 0, 200, 0, 5);
        due("seed", x.drawn(-1, 0), BAD);
        due("seed", x.drawn(100000, 0), BAD);
        due("what", x.drawn(0, 2), BAD);
        x.fire(1, 59);
        due("3 can't be, 2 can, 2 can't, 1 and 1 can, no more", x.drawn(0, 0), 6 + 5 + 7 + 9 + 8 + 7 + 6);

        promise = 33;
        x.fire(1, 200);
        due("above", x.odds(0, 1, 185, 0), 1);
        due("below", x.odds(0, 1, 185, 1), 1);
        due("above", x.odds(0, 1, 186, 0), 0);
        due("below", x.odds(0, 40, 9999, 1), 1);
        int enough = 0;
        for (int seed = 10; seed < 50; seed++) { enough += x.drawn(seed, 0) >= 150 ? 1 : 0; }
        due("of 40", x.odds(10, 40, 150, 0) * 40, enough * x.odds(10, 40, 150, 1));
        due("they may pass 99999", x.odds(99999, 40, 0, 0), 1);
        due("seed", x.odds(100000, 1, 0, 0), NO);
        due("seed", x.odds(-1, 1, 0, 0), NO);
        due("seeds", x.odds(0, 0, 0, 0), NO);
        due("seeds", x.odds(0, 41, 0, 0), NO);
        due("least", x.odds(0, 1, -1, 0), NO);
        due("least", x.odds(0, 1, 10000, 0), NO);
        due("part", x.odds(0, 1, 0, 2), NO);

        promise = 34;
        x = fresh();
        due("image", x.image(), 0);
        x.bather(12, 341);
        x.bather(0, 0);
        x.put(0, 2, 5);
        x.stoke();
        x.pour(2);
        x.minute();
        due("image", x.image(), 2);

        promise = 35;
        int joy = x.told(0, 2), warm = x.told(0, 1);
        text(x, "feels 1;bears 2;glad 3;");
        x.force(1);
        x.bather(30, 0);
        x.door(0, 3);
        x.put(0, 1, 77);
        x.put(0, 2, 88);
        for (int what = 0; what < 4; what++) { x.fire(what, 42); }
        x.sheet(0, 2, 3);
        x.feed(1, 32, 32, 32, 32, 32);
        for (int twice = 0; twice < 2; twice++) {
            due("back", x.back(), 2);
            hut(x, 1, 228, 5, 4);
            due("bench", x.told(0, 0), 1);
            due("warm", x.told(0, 1), warm);
            due("joy", x.told(0, 2), joy);
            due("came since", x.told(2, 0), -5000);
            due("THE LAW", x.count(4), 0);
            due("texts stay", x.count(3), 2);
            due("the tape stays", x.count(5), 1);
            due("sheets stay", x.cell(0, 2, 0), 1);
            x.bather(47, 0);
            due("another one", x.told(2, 3), 4);
        }
        due("image", x.image(), 3);
        due("back", x.back(), 3);
        due("none", fresh().back(), STATE);
    }

    private static void host() {
        promise = 36;
        SteamOnBench x = fresh();
        due("sheet", x.sheet(0, 2, 40), 1);
        due("its last", x.cell(0, 39, 1), 1);
        due("n", x.sheet(0, 2, 41), BAD);
        due("n", x.sheet(0, 2, -1), -14);
        due("sort", x.sheet(0, 3, -1), BAD);
        due("sort", x.sheet(0, -2, 1), BAD);
        due("sheet", x.sheet(4, 0, -1), BAD);
        due("sheet", x.sheet(-1, 0, 1), BAD);
        due("they change nothing", x.cell(0, 39, 1), 1);
        due("missing", x.sheet(0, -1, 99), 1);
        due("missing", x.cell(0, 0, 0), -11);
        x.bather(0, 3);
        sheet(x, 0, 2, 7, 7, 7);
        x.sheet(0, 2, 3);
        due("all 0", x.judge(0, 0), -1);

        promise = 37;
        due("cell", x.cell(0, 3, 0), -12);
        due("cell", x.cell(0, -1, 0), -12);
        due("cell", x.cell(4, 9, 0), BAD);
        due("cell", x.cell(1, 9, 0), -11);
        x.put(0, 1, 105);
        sheet(x, 1, 0, 100 + 256);
        due("8 bits", x.judge(1, 0), -1);
        sheet(x, 1, 1, 100 - 65536);
        due("16 bits", x.judge(1, 0), -1);
        sheet(x, 1, 1, 100 + 256);
        due("16 bits", x.judge(1, 0), 0);
        sheet(x, 1, 2, 100 + 65536);
        due("32 bits", x.judge(1, 0), 0);

        promise = 38;
        sheet(x, 0, 2, 100, 95, 90, 85, 80);
        x.sheet(1, 2, 7);
        due("copy", x.copy(0, 0, 1, 0, 5), 5);
        due("copy", x.copy(0, 3, 1, 5, 2), 2);
        due("copied", x.judge(1, 0), 5);
        due("to its own place", x.copy(0, 0, 0, 1, 4), 4);
        due("the first stays", x.judge(0, 0), 1);
        due("back, as they were", x.copy(0, 1, 0, 0, 4), 4);
        due("to the fourth", x.judge(0, 0), 4);
        due("none", x.copy(0, 5, 1, 7, 0), 0);
        due("outside", x.copy(0, 6, 1, 0, 0), -12);
        due("outside", x.copy(0, 0, 1, 8, 0), -12);
        due("outside", x.copy(0, 1, 1, 0, 5), -12);
        due("outside", x.copy(1, 0, 0, 0, 6), -12);
        due("below 0", x.copy(0, 0, 1, 0, -1), -12);
        due("outside", x.copy(0, -1, 1, 0, 1), -12);
        due("outside", x.copy(0, 0, 1, -1, 1), -12);
        due("outside", x.copy(0, Integer.MAX_VALUE, 1, 0, Integer.MAX_VALUE), -12);
        due("outside", x.copy(0, 1, 1, 1, Integer.MAX_VALUE), -12);
        x.sheet(2, 1, 5);
        due("unlike ahead of outside", x.copy(0, 9, 2, 0, 1), -13);
        due("missing", x.copy(0, 0, 3, 0, 1), -11);
        due("missing", x.copy(3, 0, 0, 0, 1), -11);
        due("sheet ahead", x.copy(3, 0, 4, 0, 1), BAD);
        due("sheet", x.copy(-1, 0, 0, 0, 1), BAD);

        promise = 39;
        x = fresh();
        sheet(x, 0, 1, 0, 47, 340, 60, 0, 12, 51);
        due("two of three", x.bathersBy(0, 1, 1, 3), 2);
        due("kind", x.told(0, 3), 4);
        due("warm", x.told(0, 1), 34);
        due("kind", x.told(1, 3), 1);
        due("bench", x.told(1, 0), 1);
        due("what stood ahead came", x.bathersBy(0, 1, 5, 2), -12);
        due("what stood ahead came", x.count(0), 3);
        due("half of one", x.bathersBy(0, 1, 6, 1), -12);
        due("ahead of all", x.bathersBy(0, 1, -1, 1), -12);
        due("far", x.bathersBy(0, 1, Integer.MAX_VALUE, 1), -12);
        due("none of them", x.bathersBy(0, 1, 0, 0), 0);
        due("none came", x.count(0), 3);
        due("sort", x.bathersBy(0, 2, 1, 1), -13);
        due("sort", x.bathersBy(0, 3, 1, 1), BAD);
        due("sort", x.bathersBy(1, -1, 1, 1), BAD);
        due("n", x.bathersBy(1, 0, 0, 7), BAD);
        due("n", x.bathersBy(1, 0, 0, -1), BAD);
        due("sheet", x.bathersBy(4, 0, 0, 1), BAD);
        due("missing", x.bathersBy(1, 0, 0, 1), -11);
        sheet(x, 1, 0, 1, 1, 2, 2, 3, 3, 4, 11, 5, 21);
        due("FULL: left out", x.bathersBy(1, 0, 0, 5), 3);
        due("FULL", x.count(0), 6);

        promise = 40;
        x = fresh();
        for (int kind = 0; kind < 6; kind++) { x.bather(10 * kind, 10 * kind + 100); }
        int[] above = {1, 3, 5, 11, 21, 33};
        for (int b = 0; b < 6; b++) {
            for (int kind = 0; kind < 7; kind++) {
                due("taken " + b + " for " + kind, x.taken(b, kind), (above[b] >> kind & 1) == 1 ? b : -13);
                due("WARM of " + b + " for " + kind, x.taken(6 + b, kind), kind == 6 ? b + 10 : -13);
            }
        }
        due("kind", x.taken(12, 7), BAD);
        due("kind", x.taken(0, -1), BAD);
        due("place", x.taken(12, 6), -12);
        due("place", x.taken(-1, 6), -12);
        x = fresh();
        due("none", x.taken(0, 6), -11);
        due("none", x.taken(11, 0), -11);
    }

    public static void main(String[] args) {
        theHut();
        tape();
        texts();
        asked();
        bathers();
        kindsTold();
        heat();
        minutes();
        best();
        toldMinutes();
        lots();
        host();
        System.out.println(wrong == 0 ? "every promise holds" : wrong + " answers are not as due");
        if (wrong != 0) { System.exit(1); }
    }
}
