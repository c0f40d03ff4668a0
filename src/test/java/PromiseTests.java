/** One test for each promise: ordinary inputs, the edges that the document names, wrong inputs. */
final class PromiseTests {
    static final int LAST = 41;

    private static final int MIN = Integer.MIN_VALUE;
    private static final int MAX = Integer.MAX_VALUE;
    private static final String LINE_24 = "abcdefghabcdefghabcdefgh";

    private PromiseTests() {
    }

    static void promise(int number) {
        switch (number) {
            case 1: newObject(); break;
            case 2: sign(); break;
            case 3: end(); break;
            case 4: rules(); break;
            case 5: line(); break;
            case 6: rule(); break;
            case 7: at(); break;
            case 8: sheet(); break;
            case 9: cut(); break;
            case 10: token(); break;
            case 11: modes(); break;
            case 12: holds(); break;
            case 13: stuck(); break;
            case 14: by(); break;
            case 15: like(); break;
            case 16: moded(); break;
            case 17: readers(); break;
            case 18: read(); break;
            case 19: twice(); break;
            case 20: longest(); break;
            case 21: matches(); break;
            case 22: stands(); break;
            case 23: states(); break;
            case 24: shortest(); break;
            case 25: idle(); break;
            case 26: overlap(); break;
            case 27: ways(); break;
            case 28: fewest(); break;
            case 29: touched(); break;
            case 30: same(); break;
            case 31: becomes(); break;
            case 32: comes(); break;
            case 33: goes(); break;
            case 34: mends(); break;
            case 35: day(); break;
            case 36: undo(); break;
            case 37: years(); break;
            case 38: keep(); break;
            case 39: again(); break;
            case 40: count(); break;
            case 41: row(); break;
            default: Check.fail("no test of promise " + number);
        }
    }

    private static void due(String what, long got, long want) {
        Check.due(what, got, want);
    }

    private static void due(String what, boolean got, boolean want) {
        Check.due(what, got, want);
    }

    private static LongestTokens made(String rules, String line) {
        return Check.made(rules, line);
    }

    private static void newObject() {
        LongestTokens x = new LongestTokens();
        long[] counts = {0, 0, 0, 0, 0, 0, 1, 0, 0};
        for (int what = 0; what < counts.length; what++) {
            due("count(" + what + ") of a new object", x.count(what), counts[what]);
        }
        due("cut() of a new object", x.cut(), 0);
        due("undo() of a new object", x.undo(), -1);
        due("like(0) of a new object", x.like(0), -2);
        Check.noSuch("rule(0, 0) of a new object", () -> x.rule(0, 0));
        Check.noSuch("at(0) of a new object", () -> x.at(0));
        Check.noSuch("row(0) of a new object", () -> x.row(0));
    }

    private static void sign() {
        LongestTokens x = new LongestTokens();
        due("sign() of the first four", x.sign('a' << 24 | 'b' << 16 | 'c' << 8 | 'd'), 4);
        due("line() of them", x.line(), 4);
        due("their order", Check.lineOf(x).equals("abcd") ? 1 : 0, 1);
        for (int length = 4; length <= 80; length += 4) {
            due("sign() up to 80", x.sign(-1), length);
        }
        due("sign() beyond 80", x.sign(-1), -1);
        due("count(5) behind that", x.count(5), 80);
        due("end(77)", x.end(77), true);
        due("sign() up to 81", x.sign(0), -1);
        due("end(76)", x.end(76), true);
        due("sign() up to 80", x.sign(0), 80);
    }

    private static void end() {
        LongestTokens x = new LongestTokens();
        due("end(0) of none", x.end(0), true);
        due("end(1) of none", x.end(1), false);
        due("end(-1) of none", x.end(-1), false);
        x.sign('a' << 24 | 'b' << 16 | 'c' << 8 | 'd');
        due("end(5) of four", x.end(5), false);
        due("end(MIN)", x.end(MIN), false);
        due("end(MAX)", x.end(MAX), false);
        due("count(5)", x.count(5), 4);
        due("end(4) of four", x.end(4), true);
        due("count(5)", x.count(5), 4);
        due("end(2) of four", x.end(2), true);
        due("end(3) of two", x.end(3), false);
        due("line()", x.line(), 2);
        due("at(1)", x.at(1), 1);
        due("end(1) of none behind line()", x.end(1), false);
    }

    private static void rulesFault(String text, int want) {
        LongestTokens x = made("0:abc;1:d", "abc");
        due("rules() of " + text, Check.rules(x, text), want);
        due("count(5) behind rules() of " + text, x.count(5), 0);
        due("count(0) behind rules() of " + text, x.count(0), want < 0 ? 2 : want);
        due("count(3) behind rules() of " + text, x.count(3), want < 0 ? 2 : 3);
    }

    private static void rules() {
        rulesFault("", 0);
        rulesFault("0:a", 1);
        rulesFault("0:a;1:b;2:c;3:d;0:a;1:b;2:c;3:d", 8);
        rulesFault("0:a;1:b;2:c;3:d;0:a;1:b;2:c;3:d;", -32);
        rulesFault("0:a;1:b;2:c;3:d;0:a;1:b;2:c;3:d;0", -32);
        rulesFault("0:a*+??**|(b|c)+.<", 1);
        rulesFault("0:a>3;1:b=0;2:c<", 3);
        rulesFault("4:a", -1);
        rulesFault(" 0:a", -1);
        rulesFault("0a", -2);
        rulesFault("0", -2);
        rulesFault("0:", -3);
        rulesFault("0:*", -3);
        rulesFault("0:|a", -3);
        rulesFault("0:a||b", -5);
        rulesFault("0:a|", -5);
        rulesFault("0:()", -4);
        rulesFault("0:(a", -5);
        rulesFault("0:(a;1:b", -5);
        rulesFault("0:(a<", -5);
        rulesFault("0:(a>", -5);
        rulesFault("0:(a=", -5);
        rulesFault("0:a)", -4);
        rulesFault("0:(a)(", -7);
        rulesFault("0:i", -3);
        rulesFault("0:A", -3);
        rulesFault("0:`", -3);
        rulesFault("0:a>", -5);
        rulesFault("0:a>4", -5);
        rulesFault("0:a=x", -5);
        rulesFault("0:a<1", -5);
        rulesFault("0:a>1>1", -6);
        rulesFault("0:a<b", -5);
        rulesFault("0:a<*", -5);
        rulesFault("0:a;", -5);
        rulesFault("0:a;;", -5);
        rulesFault("0:a0", -4);
        rulesFault("0:a:", -4);
        rulesFault("0:a\u00ff", -4);
        rulesFault("0:((((((a))))))", 1);
        rulesFault("0:((((((a))))))((((((b))))))", 1);
        rulesFault("0:(((((((a)))))))", -9);
        rulesFault("0:aaaaaaaaaa", 1);
        rulesFault("0:aaaaaaaaaaa", -100);
        rulesFault("0:..........;1:..........;2:..........;3:..........", 4);
        rulesFault("3:...........;2:aaaaaa;2:aaaaa", -102);
        rulesFault("3:...........", -103);
        rulesFault("1:aaaaaa;2:bbbbbb;1:aaaaa", -101);
        rulesFault("0:aaaaaaaaaaa;x", -15);
        rulesFault("0:aaaaaaaaaaa*;0:", -18);
    }

    private static void lineFault(String text, int want) {
        LongestTokens x = made("0:a", "hh");
        due("line() of " + text, Check.line(x, text), want);
        due("count(5) behind line() of " + text, x.count(5), 0);
        due("count(1) behind line() of " + text, x.count(1), want < 0 ? 2 : want);
        due("count(3) behind line() of " + text, x.count(3), want < 0 ? 2 : 3);
    }

    private static void line() {
        lineFault("", 0);
        lineFault("a", 1);
        lineFault("abcdefgh", 8);
        lineFault(LINE_24, 24);
        lineFault(LINE_24 + "a", -25);
        lineFault(LINE_24 + "i", -25);
        lineFault(LINE_24 + "aaaa", -25);
        lineFault("i", -1);
        lineFault("ai", -2);
        lineFault("ab`", -3);
        lineFault("ab.", -3);
        lineFault("abcA", -4);
        lineFault("a\u0000", -2);
        lineFault("a\u00e1", -2);
    }

    private static void rule() {
        LongestTokens x = made("2:ab(c|.)*<;0:a*>3;1:(a?b?)=1;3:a", "");
        long[][] want = {{2, 4, 1, -1, 0}, {0, 1, 2, 3, 1}, {1, 2, 3, 1, 1}, {3, 1, 0, -1, 0}};
        for (int k = 0; k < 4; k++) {
            for (int what = 0; what < 5; what++) {
                due("rule(" + k + ", " + what + ")", x.rule(k, what), want[k][what]);
            }
        }
        for (int wrong : new int[] {-1, 4, MIN, MAX}) {
            Check.noSuch("rule(" + wrong + ", 0)", () -> x.rule(wrong, 0));
        }
        for (int wrong : new int[] {-1, 5, MIN, MAX}) {
            Check.noSuch("rule(0, " + wrong + ")", () -> x.rule(0, wrong));
        }
        String[] empties = {"a", "a?", "a+", "a*", "a?b", "a?b*", "a|b?", "(a*)+", "(a|b)+", "(a?)(b+)", "a+*", "a?+"};
        long[] isEmpty = {0, 1, 0, 1, 0, 1, 1, 1, 0, 0, 1, 1};
        for (int i = 0; i < empties.length; i++) {
            due("what 4 of " + empties[i], made("0:" + empties[i], "").rule(0, 4), isEmpty[i]);
        }
    }

    private static void at() {
        LongestTokens x = made("", "hgfa");
        due("at(0)", x.at(0), 7);
        due("at(3)", x.at(3), 0);
        for (int wrong : new int[] {-1, 4, MIN, MAX}) {
            Check.noSuch("at(" + wrong + ")", () -> x.at(wrong));
        }
    }

    private static void sheet() {
        LongestTokens x = made("0:a", "abc");
        due("sheet of bytes", x.sheet(0, 4, 126, 1), 4);
        due("bytes", Check.lineOf(x).equals("ghab") ? 1 : 0, 1);
        due("sheet of shorts", x.sheet(1, 3, 32767, -2), 3);
        due("shorts", Check.lineOf(x).equals("hfd") ? 1 : 0, 1);
        due("sheet of ints", x.sheet(2, 3, MAX, 2), 3);
        due("ints", Check.lineOf(x).equals("hbd") ? 1 : 0, 1);
        due("sheet of 24", x.sheet(2, 24, -1, -1), 24);
        due("ints below 0", Check.lineOf(x).equals("hgfedcbahgfedcbahgfedcba") ? 1 : 0, 1);
        due("TOKENS of it", x.count(2), 24);
        due("sheet of none", x.sheet(1, 0, 5, 5), 0);
        due("signs then", x.count(1), 0);
        due("what can be undone", x.count(3), 2);
        x.sheet(0, 3, 1, 1);
        due("n below 0", x.sheet(0, -1, 1, 1), -2);
        due("n far below 0", x.sheet(2, MIN, 1, 1), -2);
        due("n above 24", x.sheet(0, 25, 1, 1), -1);
        due("n far above", x.sheet(2, MAX, 1, 1), -1);
        due("another kind", x.sheet(4, 3, 1, 1), -1);
        due("another kind, n below 0", x.sheet(-1, -1, 1, 1), -1);
        due("missing, n above 24", x.sheet(3, 25, 1, 1), -1);
        due("signs as before", Check.lineOf(x).equals("bcd") ? 1 : 0, 1);
        due("missing", x.sheet(3, -5, 1, 1), -3);
        due("signs of a missing one", x.count(1), 0);
        due("TOKENS of a missing one", x.count(2), 0);
        due("undo() behind sheets", x.undo(), 1);
        due("the LINE ahead of line()", x.count(1), 0);
        due("the RULES ahead of line()", x.count(0), 1);
    }

    private static void cut() {
        LongestTokens x = made("0:a|aab;0:c+", "aabaacccd");
        due("cut()", x.cut(), 5);
        Check.row("cut()", x, 3, 4, 5, 8, 9);
        due("cut() without a LINE", made("0:a", "").cut(), 0);
        LongestTokens none = made("", "abc");
        due("cut() without RULES", none.cut(), 3);
        Check.row("cut() without RULES", none, 1, 2, 3);
        LongestTokens empty = made("0:b*", "abba");
        due("a row without signs is no TOKEN", empty.cut(), 3);
        Check.row("a row without signs is no TOKEN", empty, 1, 3, 4);
        LongestTokens back = made("0:a;0:aaaab", "aaaac");
        due("cut() that reads far", back.cut(), 5);
    }

    private static void tokenIs(LongestTokens x, int k, long... want) {
        for (int what = 0; what < want.length; what++) {
            due("token(" + k + ", " + what + ")", x.token(k, what), want[what]);
        }
    }

    private static void token() {
        LongestTokens x = made("0:a|aab>1;1:b<;1:ac", "aabacba");
        tokenIs(x, 0, 0, 0, 3, 4, 0, 2);
        tokenIs(x, 1, 2, 3, 5, 6, 1, 2);
        tokenIs(x, 2, 1, 5, 6, 7, 1, 1);
        tokenIs(x, 3, 0, 6, 7, 8, 0, 2);
        LongestTokens stuckOnes = made("0:ab", "caa");
        tokenIs(stuckOnes, 0, -1, 0, 1, 1, 0, 1);
        tokenIs(stuckOnes, 1, -1, 1, 2, 3, 0, 1);
        tokenIs(stuckOnes, 2, -1, 2, 3, 4, 0, 1);
        LongestTokens first = made("0:a.;0:ab;1:..", "ab");
        due("the first RULE wins", first.token(0, 0), 0);
        for (int wrong : new int[] {-1, 4, MIN, MAX}) {
            Check.noSuch("token(" + wrong + ", 0)", () -> x.token(wrong, 0));
        }
        for (int wrong : new int[] {-1, 6, MIN, MAX}) {
            Check.noSuch("token(0, " + wrong + ")", () -> x.token(0, wrong));
        }
    }

    private static void modesOf(LongestTokens x, int k, long... want) {
        due("modes(" + k + ")", x.modes(k), want.length);
        Check.row("modes(" + k + ")", x, want);
    }

    private static void modes() {
        LongestTokens x = made("0:a>1;1:a>2;2:a>3;3:a>0;0:b<;1:b<;2:b<;3:b<", "aaaaaabbbbbbb");
        modesOf(x, -1, 0);
        modesOf(x, 0, 0, 1);
        modesOf(x, 1, 0, 1, 2);
        modesOf(x, 3, 0, 1, 2, 3, 0);
        modesOf(x, 4, 1, 2, 3, 0, 1);
        modesOf(x, 5, 2, 3, 0, 1, 2);
        modesOf(x, 6, 2, 3, 0, 1);
        modesOf(x, 9, 2);
        modesOf(x, 10, 2);
        modesOf(x, 12, 2);
        due("count(6)", x.count(6), 5);
        LongestTokens placed = made("0:a>1;1:b=2;2:c=3;3:d<;0:e=3", "abcdeadc");
        modesOf(placed, 0, 0, 1);
        modesOf(placed, 1, 0, 2);
        modesOf(placed, 2, 0, 3);
        modesOf(placed, 3, 0);
        modesOf(placed, 4, 3);
        due("a STUCK TOKEN in MODE 3", placed.token(5, 0), -1);
        modesOf(placed, 5, 3);
        modesOf(placed, 6, 3);
        for (int wrong : new int[] {-2, 8, MIN, MAX}) {
            due("modes(" + wrong + ")", placed.modes(wrong), -2);
        }
        Check.row("modes() of no TOKEN", placed, 3);
    }

    private static void holds() {
        LongestTokens x = made("0:aab|c", "aabcd");
        long[] want = {0, 0, 0, 1, 2};
        for (int p = 0; p < want.length; p++) {
            due("holds(" + p + ")", x.holds(p), want[p]);
        }
        for (int wrong : new int[] {-1, 5, MIN, MAX}) {
            due("holds(" + wrong + ")", x.holds(wrong), -1);
        }
    }

    private static void stuck() {
        LongestTokens x = made("0:abc|d", "aabdcab");
        due("stuck()", x.stuck(), 6);
        Check.row("stuck()", x, 0, 1, 1, 3, 2, 2, 4, 4, 5, -1, 6, 6);
        LongestTokens y = made("0:a", "ab");
        due("stuck()", y.stuck(), 1);
        Check.row("stuck()", y, 1, 1);
        due("stuck() without any", made("0:.", "ab").stuck(), 0);
        LongestTokens z = made("0:a", "a");
        z.cut();
        due("stuck() without any", z.stuck(), 0);
        Check.row("stuck() without any", z);
    }

    private static void by() {
        LongestTokens x = made("0:a;0:b+;0:h", "abbacca");
        due("by(0)", x.by(0), 3);
        Check.row("by(0)", x, 0, 2, 5);
        due("by(-1)", x.by(-1), 2);
        Check.row("by(-1)", x, 3, 4);
        due("by(1)", x.by(1), 1);
        Check.row("by(1)", x, 1);
        for (int wrong : new int[] {-2, 3, MIN, MAX}) {
            due("by(" + wrong + ")", x.by(wrong), -2);
            Check.row("by(" + wrong + ")", x, 1);
        }
        due("by(2)", x.by(2), 0);
        Check.row("by(2)", x);
    }

    private static void like() {
        LongestTokens x = made("0:a;0:bb;0:c", "abbcbb");
        x.keep(0);
        due("like(0) of the same", x.like(0), 4);
        Check.row("like(0) of the same", x, 4, 0);
        Check.rules(x, "0:a;0:b;0:c");
        due("like(0) of others", x.like(0), 1);
        Check.row("like(0) of others", x, 4, 0);
        Check.rules(x, "0:a;0:c;0:bb");
        due("like(0) by another number", x.like(0), 1);
        x.keep(1);
        Check.rules(x, "0:a;0:bb");
        Check.line(x, "abbddabb");
        due("STUCK ones are alike", x.like(0), 6);
        due("like(1)", x.like(1), 1);
        Check.row("like(1)", x, 6, 2);
        LongestTokens y = made("", "ab");
        y.keep(1);
        Check.rules(y, "0:ab");
        due("like(1) without RULES", y.like(1), 0);
        Check.row("like(1) without RULES", y, 2, 2);
        due("like(0) of nothing kept", y.like(0), -2);
        for (int wrong : new int[] {-1, 2, MIN, MAX}) {
            due("like(" + wrong + ")", y.like(wrong), -1);
        }
        Check.row("behind refused ones", y, 2, 2);
        due("like() leaves the RULES", y.rule(0, 1), 2);
        due("like() leaves the TOKENS", y.cut(), 1);
    }

    private static void moded() {
        LongestTokens x = made("0:aa>1;1:b;1:c<", "aabbdcd");
        due("moded(0)", x.moded(0), 2);
        Check.row("moded(0)", x, 3, 1);
        due("moded(1)", x.moded(1), 4);
        Check.row("moded(1)", x, 4, 1);
        for (int wrong : new int[] {-1, 4, MIN, MAX}) {
            due("moded(" + wrong + ")", x.moded(wrong), -1);
        }
        Check.row("behind refused ones", x, 4, 1);
        due("moded(3)", x.moded(3), 0);
        Check.row("moded(3)", x, 0, 0);
    }

    private static void readers() {
        LongestTokens x = made("0:a;0:aaab", "aaaac");
        due("readers(0)", x.readers(0), 1);
        Check.row("readers(0)", x, 0, 1);
        due("readers(3)", x.readers(3), 4);
        Check.row("readers(3)", x, 0, 1);
        due("readers(4)", x.readers(4), 4);
        Check.row("readers(4)", x, 1, 1);
        for (int wrong : new int[] {-1, 5, MIN, MAX}) {
            due("readers(" + wrong + ")", x.readers(wrong), -1);
        }
        Check.row("behind refused ones", x, 1, 1);
    }

    private static void read() {
        LongestTokens x = made("0:a;0:(aaa)*b", "aaaaaa");
        due("read()", x.read(), 21);
        Check.row("read()", x, 20, 12);
        LongestTokens y = made("0:a;0:a*b", "aaaa");
        due("read() of a*b", y.read(), 10);
        // Behind two signs or more just one STANDING is left, so each is remembered at once.
        Check.row("read() of a*b", y, 4 + 2 + 2 + 1, 3);
        LongestTokens stuckOnes = made("0:a*b", "aaaa");
        due("read() of STUCK ones", stuckOnes.read(), 10);
        Check.row("read() of STUCK ones", stuckOnes, 4 + 1 + 1 + 1, 4);
        LongestTokens dead = made("0:ab", "aaab");
        due("the sign of the DEAD one is READ", dead.read(), 2 + 2 + 2);
        Check.row("the sign of the DEAD one is READ", dead, 6, 2);
        LongestTokens apart = made("0:a=1;1:a=0;0:a*b;1:a*b", "aaaaa");
        due("read() by two MODES", apart.read(), 15);
        Check.row("each MODE remembers for itself", apart, 5 + 4 + 2 + 2 + 1, 7);
    }

    private static void twice() {
        LongestTokens x = made("0:a;0:a*b", "aaaa");
        due("twice()", x.twice(), 2);
        Check.row("twice()", x, 3);
        LongestTokens never = made("0:a;0:b", "abab");
        never.cut();
        due("twice() never", never.twice(), 0);
        Check.row("twice() never", never, 0);
        LongestTokens dead = made("0:ab", "ccc");
        due("DEAD ones don't count", dead.twice(), 0);
        LongestTokens won = made("0:ab|b", "ab");
        due("another place", won.twice(), 0);
        LongestTokens one = made("0:a*b", "aa");
        due("twice() of one pair", one.twice(), 1);
        Check.row("twice() of one pair", one, 2);
    }

    private static void longest() {
        LongestTokens x = made("0:a|aab;1:a+;1:a*b", "aabaa");
        due("longest(0, 0)", x.longest(0, 0), 3);
        Check.row("longest(0, 0)", x, 0);
        due("longest(0, 1)", x.longest(0, 1), 1);
        due("longest(1, 1)", x.longest(1, 1), 2);
        Check.row("longest(1, 1)", x, 2);
        due("longest(1, 3)", x.longest(1, 3), 2);
        Check.row("longest(1, 3)", x, 1);
        due("longest(0, 2)", x.longest(0, 2), -2);
        due("longest(2, 0)", x.longest(2, 0), -2);
        due("longest(0, 5)", x.longest(0, 5), -2);
        for (int wrong : new int[] {-1, 6, MIN, MAX}) {
            due("longest(0, " + wrong + ")", x.longest(0, wrong), -1);
        }
        for (int wrong : new int[] {-1, 4, MIN, MAX}) {
            due("longest(" + wrong + ", 0)", x.longest(wrong, 0), -1);
        }
        Check.row("behind refused ones", x, 1);
        LongestTokens y = made("0:a;0:aaaa", "aaa");
        due("longest() goes back", y.longest(0, 0), 1);
    }

    private static void matches() {
        LongestTokens x = made("0:a.;0:ab;1:a*;1:(a|b)+;3:abc", "abca");
        due("matches(0, 2)", x.matches(0, 2), 1 | 2 | 8);
        Check.row("matches(0, 2)", x, 0, 3, -1, -1);
        due("matches(0, 3)", x.matches(0, 3), 16);
        Check.row("matches(0, 3)", x, -1, -1, -1, 4);
        due("matches(0, 1)", x.matches(0, 1), 4 | 8);
        Check.row("matches(0, 1)", x, -1, 2, -1, -1);
        due("matches(3, 4)", x.matches(3, 4), 4 | 8);
        due("matches(2, 2)", x.matches(2, 2), 4);
        Check.row("matches(2, 2)", x, -1, 2, -1, -1);
        due("matches(4, 4)", x.matches(4, 4), 4);
        due("matches(0, 4)", x.matches(0, 4), 0);
        Check.row("matches(0, 4)", x, -1, -1, -1, -1);
        stretchRefused("matches", x, (i, j) -> x.matches(i, j), false);
    }

    private interface Stretch {
        long answer(int i, int j);
    }

    /** Of a LINE of four signs. */
    private static void stretchRefused(String name, LongestTokens x, Stretch call, boolean isEmptyRefused) {
        long[] row = Check.rowOf(x);
        int[][] wrong = {{-1, 1}, {1, 5}, {2, 1}, {5, 5}, {4, 5}, {-1, -1}, {MIN, MAX}, {MAX, MIN}, {MAX, MAX},
            {0, MAX}, {MIN, 0}};
        for (int[] stretch : wrong) {
            due(name + " from " + stretch[0] + " to " + stretch[1], call.answer(stretch[0], stretch[1]), -1);
        }
        if (isEmptyRefused) {
            due(name + " from 1 to 1", call.answer(1, 1), -1);
        }
        Check.row(name + " refused", x, row);
    }

    private static void stands() {
        LongestTokens x = made("0:ab*c|a;0:ad;1:..", "abbc");
        due("stands(0, 0, 1)", x.stands(0, 0, 1), 3);
        Check.row("stands(0, 0, 1)", x, 1 << 1 | 1 << 2 | 1 << 3);
        due("stands(0, 0, 3)", x.stands(0, 0, 3), 1);
        Check.row("stands(0, 0, 3)", x, 1 << 1 | 1 << 2);
        due("stands(0, 0, 4)", x.stands(0, 0, 4), 1);
        Check.row("stands(0, 0, 4)", x, 0);
        due("stands(1, 1, 2)", x.stands(1, 1, 2), 1);
        Check.row("stands(1, 1, 2)", x, 255);
        stretchRefused("stands", x, (i, j) -> x.stands(0, i, j), true);
        due("stands(4, 0, 1)", x.stands(4, 0, 1), -1);
        due("stands(-1, 0, 1)", x.stands(-1, 0, 1), -1);
        due("stands(MIN, 0, 1)", x.stands(MIN, 0, 1), -1);
        Check.row("stands() refused", x, 255);
        due("stands(0, 1, 2)", x.stands(0, 1, 2), 0);
        Check.row("stands(0, 1, 2)", x, 0);
        due("stands(2, 0, 1)", x.stands(2, 0, 1), 0);
        LongestTokens nested = made("0:((a|b)?c)+", "acba");
        due("stands behind a round", nested.stands(0, 0, 2), 1);
        Check.row("stands behind a round", nested, 1 << 0 | 1 << 1 | 1 << 2);
    }

    private static void states() {
        LongestTokens x = made("0:a|aab;1:(a|b)*a(a|b)(a|b)", "");
        due("states(0)", x.states(0), 3);
        Check.row("states(0)", x, 2);
        // Which of the last three signs were a is all that counts, and where there are three of them.
        due("states(1)", x.states(1), 8);
        Check.row("states(1)", x, 4);
        due("states(2)", x.states(2), 0);
        Check.row("states(2)", x, 0);
        x.states(0);
        due("states(-1)", x.states(-1), -1);
        due("states(4)", x.states(4), -1);
        due("states(MAX)", x.states(MAX), -1);
        Check.row("states() refused", x, 2);
        due("states(0) of a round", made("0:a*", "").states(0), 1);
    }

    private static void shortest() {
        LongestTokens x = made("0:a;0:a*b;0:b|(aaa)+;0:a|b;1:b*(ab|aa)", "");
        due("shortest(0)", x.shortest(0), 1);
        Check.row("shortest(0)", x, 0);
        due("shortest(1)", x.shortest(1), 1);
        Check.row("shortest(1)", x, 1);
        due("shortest(2)", x.shortest(2), 3);
        Check.row("shortest(2)", x, 0, 0, 0);
        due("shortest(4)", x.shortest(4), 2);
        Check.row("shortest(4)", x, 0, 0);
        due("shortest(3)", x.shortest(3), -2);
        due("shortest(5)", x.shortest(5), -1);
        due("shortest(-1)", x.shortest(-1), -1);
        due("shortest(MIN)", x.shortest(MIN), -1);
        Check.row("shortest() refused", x, 0, 0);
        LongestTokens y = made("1:c.|b.h;0:a", "");
        due("shortest(0) by the alphabet", y.shortest(0), 2);
        Check.row("shortest(0) by the alphabet", y, 2, 0);
        LongestTokens z = made("0:(aa)+;0:(aaa)+;0:(aaaaa)+", "");
        due("shortest(2) beyond others", z.shortest(2), 5);
        LongestTokens empty = made("0:a;0:a?", "");
        due("a RULE that wins no sign", empty.shortest(1), -2);
    }

    private static void idle() {
        LongestTokens x = made("0:a;0:a|b;0:b;1:b;0:.?;0:c+;0:cc", "");
        x.matches(0, 0);
        due("idle()", x.idle(), 1 << 2 | 1 << 6);
        Check.row("idle()", x, 2);
        LongestTokens none = made("0:a;1:a", "");
        due("idle() without any", none.idle(), 0);
        Check.row("idle() without any", none, 0);
        LongestTokens noRules = new LongestTokens();
        due("idle() without RULES", noRules.idle(), 0);
        Check.row("idle() without RULES", noRules, 0);
    }

    private static void overlap() {
        LongestTokens x = made("0:(aa)+;0:(aaa)+;2:b|c;1:b;2:a*(d|b|c)b?;0:d*", "");
        due("overlap(0, 1)", x.overlap(0, 1), 6);
        Check.row("overlap(0, 1)", x, 0, 0, 0, 0, 0, 0);
        due("overlap(4, 2)", x.overlap(4, 2), 1);
        Check.row("overlap(4, 2)", x, 1);
        due("overlap(0, 5)", x.overlap(0, 5), -2);
        due("overlap(2, 3)", x.overlap(2, 3), -3);
        due("overlap(3, 2)", x.overlap(3, 2), -3);
        due("overlap(5, 0)", x.overlap(5, 0), -2);
        due("the same one twice", x.overlap(2, 2), -1);
        int[][] wrong = {{-1, 0}, {0, -1}, {6, 0}, {0, 6}, {3, 6}, {MIN, MAX}, {7, 7}};
        for (int[] pair : wrong) {
            due("overlap(" + pair[0] + ", " + pair[1] + ")", x.overlap(pair[0], pair[1]), -1);
        }
        Check.row("overlap() refused", x, 1);
        LongestTokens y = made("0:a?;0:b?", "");
        due("a row without signs is none", y.overlap(0, 1), -2);
    }

    private static void ways() {
        LongestTokens x = made("0:a|aa;0:aaa;1:b", "aaaabaaa");
        due("ways(0, 4)", x.ways(0, 4), 7);
        Check.row("ways(0, 4)", x, 2);
        due("ways(0, 3)", x.ways(0, 3), 4);
        Check.row("ways(0, 3)", x, 1);
        due("ways(2, 2)", x.ways(2, 2), 1);
        Check.row("ways(2, 2)", x, 0);
        due("ways(0, 5)", x.ways(0, 5), 0);
        Check.row("ways(0, 5)", x, -1);
        due("ways(5, 8)", x.ways(5, 8), 4);
        due("ways(8, 8)", x.ways(8, 8), 1);
        LongestTokens y = made("0:a+", "aaaaaaaaaaaaaaaaaaaaaaaa");
        due("ways(0, 20)", y.ways(0, 20), 1 << 19);
        due("ways(0, 21)", y.ways(0, 21), 1000000);
        due("ways(0, 24)", y.ways(0, 24), 1000000);
        Check.row("ways(0, 24)", y, 1);
        LongestTokens z = made("0:a?|ab", "abcd");
        due("ways(0, 2)", z.ways(0, 2), 1);
        stretchRefused("ways", z, (i, j) -> z.ways(i, j), false);
    }

    private static void fewest() {
        LongestTokens x = made("0:a|aa|aaa;0:aab;1:d", "aaab");
        due("fewest(0, 4)", x.fewest(0, 4), 2);
        Check.row("fewest(0, 4)", x, 1, 4);
        stretchRefused("fewest", x, (i, j) -> x.fewest(i, j), false);
        due("fewest(2, 4)", x.fewest(2, 4), -2);
        Check.row("fewest(2, 4)", x, 1, 4);
        due("fewest(2, 2)", x.fewest(2, 2), 0);
        Check.row("fewest(2, 2)", x);
        LongestTokens y = made("0:a|aa|aaa", "aaaaaaa");
        due("fewest(0, 7)", y.fewest(0, 7), 3);
        Check.row("fewest(0, 7)", y, 1, 4, 7);
        due("fewest(1, 6)", y.fewest(1, 6), 2);
        Check.row("fewest(1, 6)", y, 3, 6);
        due("fewest(1, 7)", y.fewest(1, 7), 2);
        Check.row("fewest(1, 7)", y, 4, 7);
    }

    private static void touched() {
        LongestTokens x = made("0:aab;0:a;1:c", "aabcaac");
        // REACH is 4 (the c is READ), 4, 7 (up to the last c), 7, 7.
        due("touched(0)", x.touched(0), 5);
        Check.row("touched(0)", x, 0, 0);
        due("touched(3)", x.touched(3), 5);
        due("touched(4)", x.touched(4), 3);
        Check.row("touched(4)", x, 2, 4);
        due("touched(6)", x.touched(6), 3);
        for (int wrong : new int[] {-1, 7, MIN, MAX}) {
            due("touched(" + wrong + ")", x.touched(wrong), -1);
        }
        Check.row("touched() refused", x, 2, 4);
        LongestTokens far = made("0:a>1;0:abbbbbc;1:b", "abbbbb");
        due("the first one reaches the end", far.touched(5), 6);
        Check.row("the first one reaches the end", far, 0, 0);
    }

    private static void same() {
        LongestTokens x = made("0:a*b;0:ac;1:.*", "aaab");
        due("same(0, 0, 2, 0, 3)", x.same(0, 0, 2, 0, 3), 1);
        Check.row("same(0, 0, 2, 0, 3)", x, 1);
        due("same(0, 0, 1, 0, 2)", x.same(0, 0, 1, 0, 2), 0);
        Check.row("same(0, 0, 1, 0, 2)", x, 1);
        due("same(0, 0, 1, 2, 3)", x.same(0, 0, 1, 2, 3), 1);
        Check.row("same(0, 0, 1, 2, 3)", x, 2);
        due("same(0, 0, 4, 0, 1)", x.same(0, 0, 4, 0, 1), 0);
        Check.row("same(0, 0, 4, 0, 1)", x, 0);
        due("same(1, 0, 4, 0, 1)", x.same(1, 0, 4, 0, 1), 1);
        Check.row("same(1, 0, 4, 0, 1)", x, 1);
        stretchRefused("same, the first,", x, (i, j) -> x.same(0, i, j, 0, 1), true);
        stretchRefused("same, the second,", x, (i, j) -> x.same(0, 0, 1, i, j), true);
        due("same(4, ..)", x.same(4, 0, 1, 0, 1), -1);
        due("same(-1, ..)", x.same(-1, 0, 1, 0, 1), -1);
        Check.row("same() refused", x, 1);
        due("DEAD is the same as DEAD", x.same(2, 0, 1, 0, 2), 1);
        Check.row("DEAD is the same as DEAD", x, 0);
    }

    private static void becomes() {
        LongestTokens x = made("0:ab|a|b|c;0:bc", "abcabc");
        due("cut()", x.cut(), 4);
        due("becomes(3, 2)", x.becomes(3, 2), 4);
        // REACH is 3, 4, 6, 7, and bc is one TOKEN then.
        Check.row("becomes(3, 2)", x, 1, 3, 0);
        due("the LINE then", Check.lineOf(x).equals("abccbc") ? 1 : 0, 1);
        due("becomes(3, 2) again", x.becomes(3, 2), -2);
        int[][] wrong = {{-1, 0}, {6, 0}, {0, -1}, {0, 8}, {MIN, 0}, {MAX, 0}, {0, MIN}, {0, MAX}, {6, 9}};
        for (int[] pair : wrong) {
            due("becomes(" + pair[0] + ", " + pair[1] + ")", x.becomes(pair[0], pair[1]), -1);
        }
        Check.row("becomes() refused", x, 1, 3, 0);
        due("what can be undone", x.count(3), 3);
        LongestTokens at = made("0:a;0:b;0:c", "abab");
        due("becomes(2, 2)", at.becomes(2, 2), 4);
        Check.row("a place at the change is not behind it", at, 1, 2, 1);
        LongestTokens never = made("0:a>1;0:b;1:b;1:a", "abbb");
        due("becomes(0, 1)", never.becomes(0, 1), 4);
        Check.row("MODES that are never as they were", never, 0, 4, 0);
        LongestTokens met = made("0:a>0;0:b", "aaaaaab");
        due("becomes(0, 1)", met.becomes(0, 1), 7);
        Check.row("MODES that are as they were at last", met, 0, 5, 2);
    }

    private static void comes() {
        LongestTokens x = made("0:a;0:b", "abab");
        due("comes(2, 1)", x.comes(2, 1), 5);
        // The place behind the b that was there is not behind the change, the one behind the b that came is.
        Check.row("comes(2, 1)", x, 1, 2, 2);
        due("the LINE then", Check.lineOf(x).equals("abbab") ? 1 : 0, 1);
        due("comes(5, 7) at the end", x.comes(5, 7), 6);
        Check.row("comes(5, 7) at the end", x, 4, 2, 0);
        due("comes(0, 0) at the first place", x.comes(0, 0), 7);
        Check.row("comes(0, 0) at the first place", x, 0, 2, 5);
        int[][] wrong = {{-1, 0}, {8, 0}, {0, -1}, {0, 8}, {MIN, 0}, {MAX, 0}, {0, MIN}, {0, MAX}};
        for (int[] pair : wrong) {
            due("comes(" + pair[0] + ", " + pair[1] + ")", x.comes(pair[0], pair[1]), -1);
        }
        Check.row("comes() refused", x, 0, 2, 5);
        LongestTokens full = made("0:.", LINE_24);
        due("comes() to 24", full.comes(3, 3), -3);
        due("comes() to 24, another sign", full.comes(3, 8), -1);
        due("comes() to 24, no such place", full.comes(25, 0), -1);
        due("comes() to 24, at the end", full.comes(24, 0), -3);
        full.goes(23);
        due("comes() to 23", full.comes(23, 0), 24);
        LongestTokens none = made("", "");
        due("comes(0, 5) to none", none.comes(0, 5), 1);
        Check.row("comes(0, 5) to none", none, 0, 1, 0);
        LongestTokens stuckOnes = made("", "abc");
        due("comes(1, 5) behind a KEPT one", stuckOnes.comes(1, 5), 4);
        Check.row("comes(1, 5) behind a KEPT one", stuckOnes, 1, 1, 2);
    }

    private static void goes() {
        LongestTokens x = made("0:a;0:b;0:cd", "abcdab");
        due("goes(2)", x.goes(2), 5);
        Check.row("goes(2)", x, 1, 2, 2);
        due("the LINE then", Check.lineOf(x).equals("abdab") ? 1 : 0, 1);
        due("goes(4)", x.goes(4), 4);
        Check.row("goes(4)", x, 3, 1, 0);
        for (int wrong : new int[] {-1, 4, MIN, MAX}) {
            due("goes(" + wrong + ")", x.goes(wrong), -1);
        }
        Check.row("goes() refused", x, 3, 1, 0);
        LongestTokens at = made("0:a;0:b", "abab");
        due("goes(2) of abab", at.goes(2), 3);
        Check.row("a place at a sign that went is behind it", at, 1, 1, 1);
        LongestTokens first = made("0:ab|c", "cabcab");
        due("goes(0)", first.goes(0), 3);
        Check.row("goes(0)", first, 0, 1, 2);
        LongestTokens one = made("0:a", "a");
        due("goes(0) of one", one.goes(0), 0);
        Check.row("goes(0) of one", one, 0, 0, 0);
        due("goes(0) of none", one.goes(0), -1);
        LongestTokens stuckOnes = made("", "abc");
        due("goes(1) behind a KEPT one", stuckOnes.goes(1), 2);
        Check.row("goes(1) behind a KEPT one", stuckOnes, 1, 1, 0);
    }

    private static void mends() {
        LongestTokens x = made("0:abc;0:d", "dagcd");
        due("mends(2)", x.mends(2), 1);
        Check.row("mends(2)", x, 0);
        due("mends(0)", x.mends(0), 3);
        Check.row("mends(0)", x, 3);
        due("the LINE is as it was", Check.lineOf(x).equals("dagcd") ? 1 : 0, 1);
        due("TOKENS are as they were", x.cut(), 5);
        x.mends(0);
        for (int wrong : new int[] {-1, 5, MIN, MAX}) {
            due("mends(" + wrong + ")", x.mends(wrong), -1);
        }
        Check.row("mends() refused", x, 3);
        LongestTokens equal = made("0:.", "hh");
        due("the first of equal ones", equal.mends(1), 0);
        Check.row("the first of equal ones", equal, 0);
        due("what can be undone", equal.count(3), 2);
    }

    private static void dayFault(String text, int want) {
        LongestTokens x = made("0:a", "aaa");
        x.cut();
        due("day() of " + text, Check.day(x, text), want);
        Check.row("day() of " + text, x, 1, 2, 3);
        due("count(5) behind day() of " + text, x.count(5), 0);
        due("count(3) behind day() of " + text, x.count(3), 2);
        due("the LINE behind day() of " + text, Check.lineOf(x).equals("aaa") ? 1 : 0, 1);
    }

    private static void day() {
        LongestTokens x = made("0:aa;0:b", "aab");
        due("a day", Check.day(x, "r02ai03bd00"), 3);
        Check.row("a day", x, 0, 2);
        due("the LINE then", Check.lineOf(x).equals("aab") ? 1 : 0, 1);
        due("a day that is barred", Check.day(x, "d00d05d00"), 1);
        Check.row("a day that is barred", x, 1, 2);
        due("a day that is barred at once", Check.day(x, "r00ar00b"), 0);
        Check.row("a day that is barred at once", x, 1, 2);
        due("an empty day", Check.day(x, ""), 0);
        Check.row("an empty day", x, 0, 2);
        due("what can be undone", x.count(3), 4);
        due("undo() of a day", x.undo(), 3);
        due("the LINE ahead of it", Check.lineOf(x).equals("aab") ? 1 : 0, 1);
        due("a sign at the end", Check.day(x, "i03hi99a"), 1);
        Check.row("a sign at the end", x, 1, 3);
        dayFault("x", -1);
        dayFault("r", -2);
        dayFault("r0", -3);
        dayFault("r00", -4);
        dayFault("i00", -4);
        dayFault("d0", -3);
        dayFault("r00i", -4);
        dayFault("i001", -4);
        dayFault("rx", -2);
        dayFault("r0a", -3);
        dayFault("d00 d00", -4);
        dayFault("d00d0:", -6);
        dayFault("d00d0/", -6);
        dayFault("d00d", -5);
        dayFault("i00ad00d", -9);
        dayFault("d00a", -4);
        LongestTokens full = made("", LINE_24);
        due("a day of 24", Check.day(full, "d23i00ai00a"), 2);
        Check.row("a day of 24", full, 1, 24);
    }

    private static void undo() {
        LongestTokens x = made("0:a", "ab");
        x.becomes(0, 2);
        x.comes(0, 3);
        x.goes(1);
        Check.day(x, "d00d00");
        Check.rules(x, "");
        due("count(3)", x.count(3), 7);
        long[] left = {6, 5, 4, 3, 2, 1, 0, -1, -1};
        String[] lines = {"", "db", "dcb", "cb", "ab", "", "", "", ""};
        long[] rules = {1, 1, 1, 1, 1, 1, 0, 0, 0};
        for (int i = 0; i < left.length; i++) {
            due("undo() " + i, x.undo(), left[i]);
            due("the LINE behind undo() " + i, Check.lineOf(x).equals(lines[i]) ? 1 : 0, 1);
            due("the RULES behind undo() " + i, x.count(0), rules[i]);
        }
        for (int i = 0; i < 12; i++) {
            x.comes(0, i % 8);
        }
        due("of 12", x.count(3), 10);
        for (int i = 9; i >= 0; i--) {
            due("undo() of the latest ten", x.undo(), i);
        }
        due("what is left of 12", Check.lineOf(x).equals("ba") ? 1 : 0, 1);
        due("undo() of none", x.undo(), -1);
        x.becomes(0, 1);
        x.goes(7);
        Check.rules(x, "x");
        Check.line(x, "x");
        Check.day(x, "d20");
        due("refused ones are not kept", x.count(3), 0);
        x.comes(0, 1);
        x.cut();
        x.sheet(0, 3, 0, 1);
        due("undo() takes the LINE back beyond a sheet", x.undo(), 0);
        due("the LINE", Check.lineOf(x).equals("ba") ? 1 : 0, 1);
        Check.row("undo() tells no row", x, 1, 2, 3);
    }

    private static int next(int r) {
        return r * 1103515245 + 12345;
    }

    private static void years() {
        for (int seed : new int[] {0, 1, -1, 4711, MIN, MAX}) {
            LongestTokens x = made("0:ab*;0:c>1;1:b+;1:a<", "abcbaabcab");
            LongestTokens y = made("0:ab*;0:c>1;1:b+;1:a<", "abcbaabcab");
            int r = seed;
            for (int i = 0; i < 20; i++) {
                r = next(r);
                int kind = (r >>> 16) % 3;
                r = next(r);
                int q = (r >>> 16) % 24;
                if (kind == 2) {
                    y.goes(q);
                } else {
                    r = next(r);
                    int s = (r >>> 16) % 8;
                    if (kind == 0) {
                        y.becomes(q, s);
                    } else {
                        y.comes(q, s);
                    }
                }
                due("years(" + seed + ", " + (i + 1) + ")", x.years(seed, i + 1), y.count(2));
                y.read();
                long withMemory = y.row(0);
                Check.row("years(" + seed + ", " + (i + 1) + ")", x, y.stuck(), y.count(1), withMemory);
            }
            due("it is forgotten", Check.lineOf(x).equals("abcbaabcab") ? 1 : 0, 1);
            due("nothing to undo of it", x.count(3), 2);
            due("the TOKENS are as they were", x.cut(), x.count(2));
            long[] row = Check.rowOf(x);
            for (int wrong : new int[] {0, 21, -1, MIN, MAX}) {
                due("years(1, " + wrong + ")", x.years(1, wrong), -1);
            }
            Check.row("years() refused", x, row);
        }
    }

    private static void keep() {
        LongestTokens x = made("0:a", "ab");
        due("keep(0)", x.keep(0), true);
        Check.line(x, "cc");
        due("keep(1)", x.keep(1), true);
        for (int wrong : new int[] {-1, 2, MIN, MAX}) {
            due("keep(" + wrong + ")", x.keep(wrong), false);
        }
        x.goes(0);
        Check.rules(x, "0:a;0:b");
        due("again(0)", x.again(0), true);
        due("the LINE of 0", Check.lineOf(x).equals("ab") ? 1 : 0, 1);
        due("the RULES of 0", x.count(0), 1);
        due("again(1)", x.again(1), true);
        due("the LINE of 1", Check.lineOf(x).equals("cc") ? 1 : 0, 1);
        x.keep(0);
        x.goes(0);
        due("again(0) of what was kept anew", x.again(0), true);
        due("the LINE of 0", Check.lineOf(x).equals("cc") ? 1 : 0, 1);
    }

    private static void again() {
        LongestTokens x = made("0:a", "ab");
        due("again(0) of nothing", x.again(0), false);
        x.keep(0);
        due("again(1) of nothing", x.again(1), false);
        for (int wrong : new int[] {-1, 2, MIN, MAX}) {
            due("again(" + wrong + ")", x.again(wrong), false);
        }
        due("refused ones leave what can be undone", x.count(3), 2);
        x.goes(0);
        due("again(0)", x.again(0), true);
        due("what can be undone", x.count(3), 0);
        due("undo()", x.undo(), -1);
        due("cut()", x.cut(), 2);
        due("by(0)", x.by(0), 1);
        due("again(0) once more", x.again(0), true);
    }

    private static void count() {
        LongestTokens x = made("1:ab*;3:c;0:a>1;1:(a|b)d>3", "aabccad");
        x.sign(0);
        x.cut();
        long[] want = {4, 7, 5, 2, 5, 4, 3, 7, 1 | 2 | 8};
        for (int what = 0; what < want.length; what++) {
            due("count(" + what + ")", x.count(what), want[what]);
        }
        for (int wrong : new int[] {-1, 9, MIN, MAX}) {
            due("count(" + wrong + ")", x.count(wrong), -1);
        }
        due("count(6) of one", made("0:a<", "aaa").count(6), 1);
        due("count(6) with the last ACT", made("0:a>1", "a").count(6), 2);
        due("count(6) that goes down", made("0:a>1;1:b<", "abab").count(6), 2);
    }

    private static void row() {
        LongestTokens x = made("0:a", "aba");
        x.cut();
        due("row(0)", x.row(0), 1);
        due("row(2)", x.row(2), 3);
        for (int wrong : new int[] {-1, 3, MIN, MAX}) {
            Check.noSuch("row(" + wrong + ")", () -> x.row(wrong));
        }
        x.by(0);
        Check.noSuch("row(2) of a shorter one", () -> x.row(2));
        Check.line(x, "b");
        Check.row("line() tells no row", x, 0, 2);
    }

    /** Refused calls change nothing but THE TEXT, and the ROW stays. */
    static void refusedCalls() {
        LongestTokens x = made("0:a;1:b", "ab");
        x.cut();
        Check.say(x, "abcd");
        due("goes(9)", x.goes(9), -1);
        due("a call that can't read THE TEXT leaves it", x.count(5), 4);
        due("rules() of a wrong text", x.rules(), -1);
        due("THE TEXT is empty then", x.count(5), 0);
        Check.say(x, "zz");
        due("line() of a wrong text", x.line(), -1);
        due("THE TEXT is empty then", x.count(5), 0);
        Check.say(x, "zz");
        due("day() of a wrong text", x.day(), -1);
        due("THE TEXT is empty then", x.count(5), 0);
        Check.row("the ROW of cut()", x, 1, 2);
        due("count(3)", x.count(3), 2);
        Check.say(x, "hh");
        due("undo()", x.undo(), 1);
        due("undo() leaves THE TEXT", x.count(5), 2);
    }
}
