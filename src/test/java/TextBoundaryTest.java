/** Boundary cases of promises 6 and 8: reading a text from the tape, and what it says. */
public final class TextBoundaryTest {
    private static final String REST = ";bears 1;glad 1;";

    private static void fault(String text, int place) {
        SteamOnBench x = Edge.fresh();
        String shown = text.replace("\n", "\\n").replace("\t", "\\t");
        Edge.due("text " + shown, Edge.text(x, text), -100 - place);
        Edge.due("THE TAPE is empty then", x.count(5), 0);
        Edge.due("no TEXT more", x.count(3), 1);
    }
    /** The fault of an E, its place told from the E's first byte on. */
    private static void faultOf(String sum, int place) { fault("feels " + sum + REST, 6 + place); }

    private static void stands(String text) { Edge.due("text " + text, Edge.text(Edge.fresh(), text), 1); }
    private static void standsOf(String sum) { stands("feels " + sum + REST); }

    private static void answers() {
        Edge.edge(6, "its number; THE TAPE is empty then", () -> {
            SteamOnBench x = Edge.fresh();
            for (int t = 1; t < 6; t++) {
                Edge.due("text", Edge.text(x, "feels 1" + REST), t);
                Edge.due("bytes", x.count(5), 0);
                Edge.due("TEXTS", x.count(3), t + 1);
            }
        });
        Edge.edge(6, "THE TAPE is empty, by a FAULT, too: what was ahead is gone", () -> {
            SteamOnBench x = Edge.fresh();
            Edge.due("text", Edge.text(x, "feels 1; bears 2; glad"), -122);
            Edge.due("bytes", x.count(5), 0);
            Edge.due("text", Edge.text(x, "3;"), -100);
        });
        Edge.edge(6, "FULL (ahead of the FAULT; then THE TAPE stays)", () -> {
            for (String tape : new String[] {"", "wet", "feels 1" + REST}) {
                SteamOnBench x = Edge.fresh();
                for (int t = 1; t < 6; t++) { Edge.text(x, "feels 1" + REST); }
                Edge.due("text", Edge.text(x, tape), Edge.FULL);
                Edge.due("bytes", x.count(5), tape.length());
                Edge.due("TEXTS", x.count(3), 6);
                Edge.due("again", x.text(), Edge.FULL);
            }
        });
        Edge.edge(6, "a FAULT changes nothing but THE TAPE", () -> {
            SteamOnBench x = Edge.furnished();
            int law = x.count(4), texts = x.count(3), steam = x.hut(2), warm = x.told(0, 1);
            Edge.due("text", x.text(), -108);
            Edge.due("THE LAW", x.count(4), law);
            Edge.due("TEXTS", x.count(3), texts);
            Edge.due("STEAM", x.hut(2), steam);
            Edge.due("WARM", x.told(0, 1), warm);
        });
        Edge.edge(6, "a new TEXT isn't THE LAW", () -> {
            SteamOnBench x = Edge.fresh();
            Edge.text(x, "feels 9" + REST);
            x.bather(0, 0);
            Edge.due("THE LAW", x.count(4), 0);
            Edge.due("feels", x.asks(0, 0), 1);
        });
    }

    private static void ends() {
        Edge.edge(6, "the text's size, if it ends too early: empty, blanks alone", () -> {
            fault("", 0);
            fault(" ", 1);
            fault("\n \n", 3);
            fault(" ".repeat(160), 160);
        });
        Edge.edge(6, "the text's size, if it ends too early: behind each token", () -> {
            String[] tokens = {"feels", "1", ";", "bears", "2", ";", "glad", "3"};
            String text = "";
            for (String token : tokens) {
                text += token;
                fault(text, text.length());
                text += " ";
                fault(text, text.length());
            }
            stands(text + ";");
        });
        Edge.edge(6, "the text's size, if it ends too early: inside of an E", () -> {
            for (String sum : new String[] {"1 or", "1 and", "not", "1 <", "1 =", "1 +", "1 -", "1 *", "-", "(", "(1", "((1)"}) {
                fault("feels " + sum, 6 + sum.length());
            }
        });
        Edge.edge(6, "nothing stands behind the last ; but blanks", () -> {
            stands("feels 1" + REST + " \n ");
            fault("feels 1" + REST + ";", 23);
            fault("feels 1" + REST + " 1", 24);
            fault("feels 1" + REST + " wet", 24);
            fault("feels 1" + REST + " 12345", 24);
            fault("feels 1" + REST + " " + (char) 9, 24);
            fault("feels 1" + REST + "feels 1" + REST, 23);
        });
        Edge.edge(6, "THE TAPE (160 bytes at most): a text, a FAULT at the last byte, at the size", () -> {
            String sum = "1+".repeat(68) + "1";
            stands("feels 0;bears  " + sum + ";glad 0;");
            fault("feels 0;bears  " + sum + ";glad 0)", 159);
            fault("feels 0;bears  " + sum + ";glad 00", 160);
        });
        Edge.edge(6, "a TEXT read behind a longer one holds nothing of it", () -> {
            SteamOnBench x = Edge.fresh();
            Edge.text(x, "feels 1+2+3+4+5+6;bears 7+8+9;glad not 1 or 2;");
            Edge.text(x, "feels 4;bears 5;glad 6;");
            x.force(2);
            x.bather(0, 0);
            for (int part = 0; part < 3; part++) { Edge.due("part " + part, x.asks(part, 0), 4 + part); }
            x.force(1);
            Edge.due("the longer one", x.asks(0, 0), 21);
        });
    }

    private static void tokens() {
        Edge.edge(6, "a byte that begins none", () -> {
            for (int b = 0; b < 256; b++) {
                boolean blank = b == 32 || b == 10;
                boolean begins = b >= 'a' && b <= 'z' || b >= '0' && b <= '9' || "();+-*<=".indexOf(b) >= 0;
                if (!blank && !begins) {
                    faultOf("1 " + (char) b, 2);
                    fault((char) b + "feels", 0);
                }
                if (blank) { standsOf((char) b + "1" + (char) b); }
            }
        });
        Edge.edge(6, "WORDS (as many letters a .. z as stand there)", () -> {
            standsOf("warm");
            faultOf("warma", 0);
            faultOf("awarm", 0);
            faultOf("war m", 0);
            faultOf("Warm", 0);
            faultOf("waRm", 0);
            faultOf("a", 0);
            faultOf("z", 0);
            faultOf("warmz", 0);
            faultOf("zwarm", 0);
            faultOf("warm`", 4);
            faultOf("warm{", 4);
            fault("feelswarm;", 0);
        });
        Edge.edge(6, "a WORD that is neither KEY nor NAME", () -> {
            for (String name : new String[] {"stones", "steam", "bench", "minute", "warm", "more"}) {
                standsOf(name);
                faultOf(name + "s", 0);
                faultOf(name.substring(1), 0);
                for (int i = 0; i < name.length(); i++) {
                    faultOf(name.substring(0, i) + 'x' + name.substring(i + 1), 0);
                }
            }
            faultOf("1 + joy", 4);
            faultOf("1 xor 2", 2);
        });
        Edge.edge(6, "a KEY that can't stand there", () -> {
            for (String key : new String[] {"feels", "bears", "glad", "or", "and"}) { faultOf(key, 0); }
            faultOf("1 feels", 2);
            faultOf("1 not 1", 2);
            faultOf("1 + not 1", 4);
            faultOf("1 * not 1", 4);
            faultOf("1 < not 1", 4);
            faultOf("- not 1", 2);
            fault("bears 1;", 0);
            fault("glad 1;", 0);
            fault("feels 1;glad 1;", 8);
            fault("feels 1;feels 1;", 8);
            fault("feels 1;bears 1;bears 1;", 16);
        });
        Edge.edge(6, "a WORD that is but like a KEY", () -> {
            for (String key : new String[] {"feels", "bears", "glad"}) {
                String text = "feels 1;bears 2;glad 3;";
                int place = text.indexOf(key);
                for (int i = 0; i < key.length(); i++) {
                    fault(text.substring(0, place + i) + 'x' + text.substring(place + i + 1), place);
                }
            }
            for (String key : new String[] {"xr", "ox", "xnd", "axd", "anx"}) { faultOf("1 " + key + " 1", 2); }
            for (String key : new String[] {"xot", "nxt", "nox"}) { faultOf(key + " 1", 0); }
        });
        Edge.edge(6, "NUMBERS (as many digits as stand there; more than 4 are too long)", () -> {
            standsOf("9999");
            standsOf("0000");
            faultOf("10000", 0);
            faultOf("00000", 0);
            faultOf("1 + 123456789012345678901234567890", 4);
            faultOf("1 2", 2);
            faultOf("12 34", 3);
            faultOf("1warm", 1);
            faultOf("warm1", 4);
        });
        Edge.edge(6, "the first TOKEN that can't stand there: a fault ahead of a worse one", () -> {
            faultOf("1 1 12345", 2);
            faultOf(") wet", 0);
            faultOf("(1 ; 12345", 3);
            faultOf("1 + ) " + (char) 200, 4);
        });
        Edge.edge(6, "blanks (32, 10) may stand between", () -> {
            stands("feels1;bears1;glad1;");
            stands(" \nfeels \n1 \n; \nbears \n1 \n; \nglad \n1 \n; \n");
            stands("feels 1or 2and 3<4+5*6;bears(1);glad-1;");
            standsOf("not(1)");
            standsOf("not-1");
            standsOf("2--1");
        });
    }

    private static void grammar() {
        Edge.edge(6, "NOT: perhaps < or = and a SUM: one of them at most", () -> {
            standsOf("1 < 2");
            standsOf("1 = 2");
            faultOf("1 < 2 < 3", 6);
            faultOf("1 = 2 = 3", 6);
            faultOf("1 < 2 = 3", 6);
            faultOf("1 < = 2", 4);
            standsOf("(1 < 2) < 3");
            standsOf("1 < 2 and 3 < 4 or 5 = 6");
        });
        Edge.edge(6, "ONE: a sign that can't begin one", () -> {
            for (String sign : new String[] {"+", "*", "<", "=", ")", ";"}) {
                fault("feels " + sign, 6);
                faultOf("1 + " + sign, 4);
            }
            faultOf("()", 1);
            faultOf("(1))", 3);
            faultOf("1)", 1);
            faultOf("(1 2)", 3);
        });
        String[] names = {"(", "not ", "-"};
        for (String name : names) {
            Edge.edge(6, "a " + name + " while 5 of these are open", () -> {
                String shut = name.equals("(") ? ")" : "";
                standsOf(name.repeat(5) + "1" + shut.repeat(5));
                faultOf(name.repeat(6) + "1" + shut.repeat(6), 5 * name.length());
                faultOf(name.repeat(5) + "(1", 5 * name.length());
                faultOf(name.repeat(5) + "-1", 5 * name.length());
            });
        }
        Edge.edge(6, "a not while 5 of these are open: ( and not", () -> {
            standsOf("not(not(not 1))");
            faultOf("(not(not(not 1", 9);
            faultOf("(((((not 1", 5);
            standsOf("((((not 1))))");
        });
        Edge.edge(6, "a - ahead of a ONE while 5 of these are open, of all kinds", () -> {
            standsOf("not(-(-1))");
            faultOf("not(-(-(1)))", 7);
            faultOf("not(-(--1))", 7);
            standsOf("not not(1--1)");
            standsOf("not not(--1)");
            faultOf("not not(---1)", 10);
        });
        Edge.edge(6, "a ( till its )", () -> {
            standsOf("(((((1)))))+(((((1)))))");
            standsOf("((((1)+(1))))+-----1");
            standsOf("((((1))+(1)*(1)))");
            faultOf("((((1)+(((1", 9);
        });
        Edge.edge(6, "not till what it belongs to ends", () -> {
            standsOf("not not not not not 1 and not not not not not 1 or not 1");
            standsOf("not not not not not 1 < 2 and not 1");
            faultOf("not not not not not 1 < (2)", 24);
            faultOf("not not not not not 1 + -2", 24);
            faultOf("not not not not not 1 * (2)", 24);
            standsOf("not not not not 1 < (2)");
            faultOf("not not not not 1 = ((2))", 21);
        });
        Edge.edge(6, "- till what it belongs to ends", () -> {
            standsOf("-----1*-----1+-----1---1");
            standsOf("-----1 - -----1");
            standsOf("-----1 < -----1");
            standsOf("-----1 and not ----1");
            faultOf("-----1 and not -----1", 19);
        });
        Edge.edge(6, "a - between TERMS isn't ahead of a ONE", () -> {
            standsOf("(((((1-1)))))");
            standsOf("(((((1-1-1-1)))))");
            faultOf("(((((1--1)))))", 7);
        });
        Edge.edge(6, "5 of these are open: of each part anew", () ->
            stands("feels (((((1)))));bears (((((1)))));glad -----1;"));
    }

    private static void holds(String sum, boolean due) { bound(0, sum, due ? 1 : 0); }

    private static void bound(int part, String sum, int due) {
        String[] sums = {"1", "1", "1"};
        sums[part] = sum;
        SteamOnBench x = Edge.under(sums[0], sums[1], sums[2]);
        x.bather(0, 0);
        Edge.due("part " + part + " of " + sum, x.asks(part, 0), due);
    }

    private static void asked() {
        Edge.edge(8, "-1000: none such: a BATHER", () -> {
            for (int b : Edge.outside(0, 3)) { Edge.same("asks 0 " + b, x -> x.asks(0, b), -1000); }
            Edge.due("no BATHERS", Edge.fresh().asks(0, 0), -1000);
        });
        Edge.edge(8, "-1000: none such: a part", () -> {
            for (int part : Edge.outside(0, 2)) { Edge.same("asks " + part, x -> x.asks(part, 0), -1000); }
        });
        Edge.edge(8, "what is asked changes nothing", () -> {
            for (int part = 0; part < 3; part++) {
                int p = part;
                Edge.same("asks " + p, x -> x.asks(p, 2), Edge.furnished().asks(p, 2));
            }
        });
        for (int part : new int[] {0, 2}) {
            Edge.edge(8, (part == 0 ? "feels" : "glad") + " -99 .. 99, else the bound", () -> {
                bound(part, "98", 98);
                bound(part, "99", 99);
                bound(part, "100", 99);
                bound(part, "9999*9999", 99);
                bound(part, "-99", -99);
                bound(part, "-100", -99);
                bound(part, "-9999*9999", -99);
            });
        }
        Edge.edge(8, "bears 0 .. 999, else the bound", () -> {
            bound(1, "998", 998);
            bound(1, "999", 999);
            bound(1, "1000", 999);
            bound(1, "9999*9999", 999);
            bound(1, "0", 0);
            bound(1, "-1", 0);
            bound(1, "-9999*9999", 0);
        });
        Edge.edge(8, "of KIND nothing: the text alone says", () -> {
            SteamOnBench x = Edge.under("8", "60", "5");
            x.fire(Edge.STEAM, 10);
            x.fire(Edge.STONES, 301);
            for (int kind = 0; kind < 6; kind++) {
                x.bather(10 * kind + 3, 0);
                Edge.due("feels", x.asks(0, kind), 8);
                Edge.due("bears", x.asks(1, kind), 60);
                Edge.due("glad", x.asks(2, kind), 5);
            }
        });
    }

    private static void values() {
        Edge.edge(8, "an int (32 bits, wrapping): *", () -> {
            holds("9999*9999 = 9999*9999", true);
            holds("0 < 9999*9999*10", true);
            holds("9999*9999*100 < 0", false);
            holds("9999*9999*22 < 0", true);
            holds("8192*8192*32 < 0", true);
            holds("8192*8192*64 = 0", true);
        });
        Edge.edge(8, "an int (32 bits, wrapping): +, at the most", () -> {
            holds("8192*8192*16+(8192*8192*16-1) < 0", false);
            holds("8192*8192*16+8192*8192*16 < 0", true);
        });
        Edge.edge(8, "an int (32 bits, wrapping): -, at the least", () -> {
            holds("8192*8192*32-1 < 0", false);
            holds("8192*8192*32 < 0", true);
            holds("-(8192*8192*32) < 0", true);
            holds("-(8192*8192*32) = 8192*8192*32", true);
        });
        Edge.edge(8, "an int: < is told of the ints, not of what is between", () -> {
            holds("8192*8192*32 < 1", true);
            holds("1 < 8192*8192*32", false);
            holds("8192*8192*32-1 < 8192*8192*32", false);
        });
        Edge.edge(8, "of or, and, not, <, = 1 or 0", () -> {
            String[] sums = {"7 or 0", "0 or 7", "0 or 0", "7 and 9", "7 and 0", "0 and 7", "not 7", "not 0", "1 < 2", "2 < 2", "3 < 2",
                "2 = 2", "2 = 3", "4 and 2", "not not 9"};
            int[] due = {1, 1, 0, 1, 0, 0, 0, 1, 1, 0, 0, 1, 0, 1, 1};
            for (int i = 0; i < sums.length; i++) { bound(0, sums[i], due[i]); }
        });
        Edge.edge(8, "what is not 0 is true: below 0, the wrapped, not what wraps to 0", () -> {
            bound(0, "-1 and -1", 1);
            bound(0, "not -1", 0);
            bound(0, "8192*8192*32 or 0", 1);
            bound(0, "8192*8192*64 or 0", 0);
        });
        Edge.edge(8, "which binds: or, and, not, <, +, *, -", () -> {
            bound(0, "1 or 1 and 0", 1);
            bound(0, "not 1 or 1", 1);
            bound(0, "not 0 and 0", 0);
            bound(0, "not 2 = 2", 0);
            bound(0, "1 < 1 + 1", 1);
            bound(0, "2 + 3 * 4", 14);
            bound(0, "-2 * -3", 6);
            bound(0, "-1 + 2", 1);
            bound(0, "20 - 5 - 4 + 3", 14);
            bound(0, "2 * (3 + 4) * 5", 70);
            bound(0, "0 and 0 or 1", 1);
            bound(0, "(1 < 2) + (2 = 2) + (not 0)", 3);
        });
        Edge.edge(8, "NUMBERS: 0, 9999, noughts ahead", () -> {
            bound(1, "0", 0);
            bound(1, "0099", 99);
            bound(1, "9999-9990", 9);
            bound(1, "0000", 0);
        });
        Edge.edge(8, "bench: BENCH (OUT: 0)", () -> {
            SteamOnBench x = Edge.under("10 + bench", "0", "0");
            int[] due = {10, 11, 12, 10};
            for (int bench = 0; bench < 4; bench++) {
                x.bather(0, bench);
                Edge.due("on " + bench, x.asks(0, bench), due[bench]);
            }
        });
        Edge.edge(8, "stones, steam, minute, warm, more: the least, the most", () -> {
            SteamOnBench x = Edge.under("more + steam * 0", "stones", "0");
            x.bather(9, 9990);
            Edge.due("more", x.asks(0, 0), 9);
            x.fire(Edge.STONES, 999);
            Edge.due("stones", x.asks(1, 0), 999);
            x.fire(Edge.STONES, 0);
            Edge.due("stones", x.asks(1, 0), 0);
            x = Edge.under("steam", "minute", "0");
            x.bather(0, 0);
            x.fire(Edge.STEAM, 99);
            x.fire(Edge.MINUTE, 999);
            Edge.due("steam", x.asks(0, 0), 99);
            Edge.due("minute", x.asks(1, 0), 999);
            x = Edge.under("0", "warm", "0");
            x.bather(0, 9990);
            Edge.due("warm", x.asks(1, 0), 999);
            x.put(0, Edge.WARM, 0);
            Edge.due("warm", x.asks(1, 0), 0);
        });
        Edge.edge(8, "minute in thought: it may pass 999", () -> {
            SteamOnBench x = Edge.under("minute - 990", "999", "0");
            x.bather(0, 0);
            x.fire(Edge.MINUTE, 998);
            Edge.due("8, 9, 10 more", x.run(3, 10), 27);
        });
        Edge.edge(8, "the deepest: 5 open, on each level as much as can wait", () -> {
            bound(0, "0or1and1=0+1*(".repeat(5) + "0or1and1=0+1*1" + ")".repeat(5), 1);
            bound(0, "0or1and1=0+1*(".repeat(5) + "0or1and1=0+1*0" + ")".repeat(5), 0);
        });
    }

    public static void main(String[] args) {
        answers();
        ends();
        tokens();
        grammar();
        asked();
        values();
        Edge.end();
    }
}
