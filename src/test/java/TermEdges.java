import java.util.List;

/** Boundaries that are named ahead of the promises: the Terms, and how long an object is used. */
final class TermEdges extends Edges {
    private record Asked(String name, Check.Call call) {
    }

    @Override
    void list() {
        use();
        rules();
        ways();
        standings();
        modes();
        tokens();
        memory();
        keptOnes();
        metOnes();
        refusals();
        rows();
    }

    private void use() {
        says(WHAT_IT_IS, "An object is used for at most 512 calls after it has been made");
        edge("the 512th call", () -> {
            LongestTokens x = new LongestTokens();
            for (int call = 1; call <= 24; call++) {
                due("call " + call, x.comes(0, call % 8), call);
            }
            for (int call = 25; call <= 511; call++) {
                due("call " + call, x.becomes(3, call % 2), 24);
            }
            due("call 512", x.cut(), 24);
        });
        says(WHAT_IT_IS, "public static final int NONE = -1;");
        edge("its number", () -> due("NONE", LongestTokens.NONE, -1));
    }

    private void rules() {
        says(TERMS, "RULES 0, 1, .. (at most 8) with ; between.");
        edge("one", () -> rulesTell("0:a", 1));
        edge("eight", () -> rulesTell("0:a;1:a;2:a;3:a;0:a;1:a;2:a;3:a", 8));
        edge("the first is 0, the last 7", () -> {
            LongestTokens x = made("3:a;1:a;1:a;1:a;1:a;1:a;1:a;2:a", "");
            due("rule(0, 0)", x.rule(0, 0), 3);
            due("rule(7, 0)", x.rule(7, 0), 2);
        });
        edge("nothing between", () -> rulesTell("0:a0:b", -4));
        edge("two ; between", () -> rulesTell("0:a;;0:b", -5));
        edge("a ; ahead of the first", () -> rulesTell(";0:a", -1));
        says(TERMS, "RULE: a digit 0 .. 3 (its MODE), :, a WAY, and, if wanted, an ACT:");
        edge("the lowest MODE", () -> rulesTell("0:a", 1));
        edge("the highest MODE", () -> rulesTell("3:a", 1));
        edge("below the digits", () -> rulesTell("/:a", -1));
        edge("above the digits", () -> rulesTell("4:a", -1));
        edge("two digits", () -> rulesTell("00:a", -2));
        edge("two :", () -> rulesTell("0::a", -3));
        edge("two ACTS", () -> {
            rulesTell("0:a<<", -5);
            rulesTell("0:a>1<", -6);
            rulesTell("0:a=1>1", -6);
        });
        says(TERMS, "< (the MODE goes), > and a digit 0 .. 3 (that MODE comes on top), = and a digit 0 .. 3 "
            + "(that MODE is in place of the topmost).");
        edge("the lowest digits", () -> rulesTell("0:a>0;0:b=0", 2));
        edge("the highest digits", () -> rulesTell("0:a>3;0:b=3", 2));
        edge("below the digits", () -> {
            rulesTell("0:a>/", -5);
            rulesTell("0:a=/", -5);
        });
        edge("above the digits", () -> {
            rulesTell("0:a>4", -5);
            rulesTell("0:a=4", -5);
        });
        edge("< with a digit", () -> rulesTell("0:a<0", -5));
        edge("two digits", () -> rulesTell("0:a>12", -6));
        edge("= of one MODE alone", () -> {
            LongestTokens x = made("0:a=2", "a");
            tells("modes(0)", x, x.modes(0), 1, 2);
        });
        edge("= of the highest MODE, = to it", () -> {
            LongestTokens x = made("0:a=3;3:b=0;0:c=1;1:d=2", "abcd");
            tells("modes(0)", x, x.modes(0), 1, 3);
            tells("modes(1)", x, x.modes(1), 1, 0);
            tells("modes(2)", x, x.modes(2), 1, 1);
            tells("modes(3)", x, x.modes(3), 1, 2);
        });
        edge("= leaves those below", () -> {
            LongestTokens x = made("0:a=3;3:b>1;1:c=2;2:d=0", "abcd");
            tells("modes(2)", x, x.modes(2), 2, 3, 2);
            tells("modes(3)", x, x.modes(3), 2, 3, 0);
        });
        edge("= of five MODES", () -> {
            LongestTokens x = made("0:a>0;0:b=3", "aaaab");
            tells("modes(4)", x, x.modes(4), 5, 0, 0, 0, 0, 3);
        });
    }

    private void ways() {
        says(TERMS, "CHAIN: one or more PARTS.");
        edge("one", () -> rulesTell("0:a", 1));
        edge("ten", () -> rulesTell("0:aaaaaaaaaa", 1));
        edge("none in a RULE", () -> rulesTell("0:<", -3));
        edge("none ahead of |", () -> rulesTell("0:|a", -3));
        edge("none behind |", () -> rulesTell("0:a|<", -5));
        edge("none between two |", () -> rulesTell("0:a||b", -5));
        edge("none in ( )", () -> rulesTell("0:()", -4));
        edge("none behind | in ( )", () -> rulesTell("0:(a|)", -6));
        says(TERMS, "PART: a LETTER a .. h or . (any sign), or ( WAY ),");
        edge("the first and the last LETTER", () -> rulesTell("0:ah", 1));
        edge("ahead of the LETTERS", () -> rulesTell("0:`", -3));
        edge("behind the LETTERS", () -> rulesTell("0:i", -3));
        edge(". takes the first and the last sign", () -> {
            LongestTokens x = made("0:.", "ah");
            due("matches(0, 1)", x.matches(0, 1), 1);
            due("matches(1, 2)", x.matches(1, 2), 1);
        });
        edge("a ) more than (", () -> rulesTell("0:(a))", -6));
        edge("a ( more than )", () -> rulesTell("0:((a)", -7));
        edge("( WAY ) behind a PART and ahead of one", () -> {
            LongestTokens x = made("0:a(b|c)*d", "acbdbd");
            due("matches(0, 4)", x.matches(0, 4), 1);
            due("matches(4, 6)", x.matches(4, 6), 0);
            due("MATCHES no signs", x.rule(0, 4), 0);
        });
        edge("( WAY ) in ( WAY )", () -> {
            LongestTokens x = made("0:((a)(b|(c)))d", "acd");
            due("matches(0, 3)", x.matches(0, 3), 1);
            due("matches(1, 3)", x.matches(1, 3), 0);
        });
        says(TERMS, "any many of * + ? (so often as one likes; that, but once at least; once or not).");
        edge("none and many", () -> rulesTell("0:ab*+?*+?*+?*+?", 1));
        edge("one ahead of a PART", () -> {
            rulesTell("0:*a", -3);
            rulesTell("0:(+a)", -4);
            rulesTell("0:a|?b", -5);
        });
        edge("* is not once, once and 24 times", () -> manyTimes("0:a*", true, true, true));
        edge("+ is once and 24 times", () -> manyTimes("0:a+", false, true, true));
        edge("? is not once and once", () -> manyTimes("0:a?", true, true, false));
        edge("all three of them", () -> manyTimes("0:a?+", true, true, true));
        says(TERMS, "A LINE: at most 24 signs a .. h, at places 0, 1, ..");
        edge("24", () -> due("line()", Check.line(new LongestTokens(), LINE_24), 24));
        edge("25", () -> due("line()", Check.line(new LongestTokens(), LINE_24 + "a"), -25));
        edge("the first and the last sign", () -> due("line()", Check.line(new LongestTokens(), "ah"), 2));
        edge("ahead of the signs", () -> due("line()", Check.line(new LongestTokens(), "`"), -1));
        edge("behind the signs", () -> due("line()", Check.line(new LongestTokens(), "i"), -1));
        edge("the first place is 0", () -> due("at(0)", made("", "hb").at(0), 7));
    }

    private static void manyTimes(String rule, boolean none, boolean once, boolean often) {
        LongestTokens x = made(rule, A_24);
        due(rule + " of none", x.matches(0, 0), none ? 1 : 0);
        due(rule + " of one", x.matches(0, 1), once ? 1 : 0);
        due(rule + " of 24", x.matches(0, 24), often ? 1 : 0);
    }

    private void standings() {
        says(TERMS, "In one MODE its RULES have at most 10 LETTERS (. counts) together.");
        edge("ten in each MODE", () -> rulesTell("0:aaaaaaaaaa;1:aaaaaaaaaa;2:aaaaaaaaaa;3:aaaaaaaaaa", 4));
        edge("eleven of one RULE", () -> rulesTell("0:aaaaaaaaaaa", -100));
        edge("eleven of two RULES", () -> rulesTell("0:aaaaa;1:b;0:aaaaaa", -100));
        edge("the eleventh is .", () -> rulesTell("0:aaaaaaaaaa.", -100));
        edge("all ten of them STAND", () -> {
            LongestTokens x = made("0:.....;0:....;0:(.*)", "a");
            due("stands()", x.stands(0, 0, 1), 3);
            LongestTokens y = made("0:a*a*a*a*a*a*a*a*a*a*", "a");
            tells("stands() of ten", y, y.stands(0, 0, 1), 10, 1);
        });
        says(TERMS, "A LETTER of a RULE STANDS behind a row (of one sign at least)");
        edge("a row without signs", () -> {
            LongestTokens x = made("0:a*", "a");
            due("stands(0, 0, 0)", x.stands(0, 0, 0), -1);
            tells("states(0)", x, x.states(0), 1, 1);
        });
        says(TERMS, "DEAD: none does.");
        edge("behind a sign that no LETTER takes", () -> {
            LongestTokens x = made("0:ab", "aa");
            tells("stands()", x, x.stands(0, 0, 2), 0, 0);
        });
        edge("in a MODE without RULES", () -> {
            LongestTokens x = made("0:a", "a");
            tells("stands()", x, x.stands(1, 0, 1), 0, 0);
        });
        edge("it stays so", () -> {
            LongestTokens x = made("0:a*", "aba");
            tells("stands()", x, x.stands(0, 0, 3), 0, 0);
        });
        says(TERMS, "WINNER: the first RULE of the MODE that MATCHES the row.");
        edge("two MATCH", () -> due("token(0, 0)", made("1:a;0:a.;0:ab", "ab").token(0, 0), 1));
        edge("the first MATCHES a shorter row alone", () -> due("token(0, 0)", made("0:a;0:ab", "ab").token(0, 0), 1));
    }

    private void modes() {
        says(TERMS, "MODES lie on one another, at first 0 alone;");
        edge("the first TOKEN", () -> tokenIs(made("1:a;2:a;3:a", "a"), 0, -1, 0, 1, 1, 0, 1));
        edge("an empty LINE", () -> {
            LongestTokens x = made("1:a", "");
            tells("modes(NONE)", x, x.modes(-1), 1, 0);
        });
        edge("each time that a LINE is cut", () -> {
            LongestTokens x = made("0:a>1;1:b", "aab");
            for (int again = 0; again < 3; again++) {
                due("line()", Check.line(x, "aab"), 3);
                tokenIs(x, 0, 0, 0, 1, 2, 0, 2);
                tells("modes(2)", x, x.modes(2), 2, 0, 1);
                due("count(6)", x.count(6), 2);
            }
            Check.line(x, "");
            due("count(6) of an empty LINE", x.count(6), 1);
        });
        says(TERMS, "at most 5: of a sixth that comes the lowest goes;");
        edge("the fifth", () -> {
            LongestTokens x = made("0:a>1;1:a>2;2:a>3;3:a>0", "aaaaaa");
            tells("modes(3)", x, x.modes(3), 5, 0, 1, 2, 3, 0);
        });
        edge("the sixth", () -> {
            LongestTokens x = made("0:a>1;1:a>2;2:a>3;3:a>0", "aaaaaa");
            tells("modes(4)", x, x.modes(4), 5, 1, 2, 3, 0, 1);
            due("count(6)", x.count(6), 5);
        });
        edge("the lowest has gone for good", () -> {
            LongestTokens x = made("0:a>1;1:a>2;2:a>3;3:a>0;0:b<;1:b<;2:b<;3:b<", "aaaaabbbbb");
            tells("modes(8)", x, x.modes(8), 1, 1);
            tells("modes(9)", x, x.modes(9), 1, 1);
        });
        says(TERMS, "the last one never goes.");
        edge("< of one MODE alone", () -> {
            LongestTokens x = made("0:a<", "aa");
            tells("modes(0)", x, x.modes(0), 1, 0);
            tells("modes(1)", x, x.modes(1), 1, 0);
        });
        edge("< of two MODES", () -> {
            LongestTokens x = made("0:a>1;1:a<", "aa");
            tells("modes(1)", x, x.modes(1), 1, 0);
        });
    }

    private void tokens() {
        says(TERMS, "signs are READ one by one from p on, till STANDING is DEAD or the LINE ends (the sign by which it "
            + "is DEAD is READ, too).");
        edge("DEAD", () -> due("read()", made("0:ab", "abc").read(), 3 + 1));
        edge("the LINE ends", () -> due("read()", made("0:a*", "aaa").read(), 3));
        edge("the sign by which it is DEAD", () -> {
            LongestTokens x = made("0:ab", "abcc");
            tells("readers(2)", x, x.readers(2), 2, 0, 1);
            tells("readers(3)", x, x.readers(3), 1, 2, 1);
        });
        says(TERMS, "The TOKEN is the longest row READ that has a WINNER: its RULE; its ACT is done; p is behind it.");
        edge("the last sign READ is its own", () -> tokenIs(made("0:a|aab", "aab"), 0, 0, 0, 3, 4, 0, 1));
        edge("it is far ahead of the last sign READ", () -> tokenIs(made("0:a>1;0:aaab", "aaa"), 0, 0, 0, 1, 4, 0, 2));
        edge("a row without signs is not READ", () -> tokenIs(made("0:a*>1", "b"), 0, -1, 0, 1, 1, 0, 1));
        says(TERMS, "Without one: a STUCK TOKEN of one sign, its RULE NONE, without an ACT.");
        edge("one sign was READ", () -> tokenIs(made("0:ab>1", "c"), 0, -1, 0, 1, 1, 0, 1));
        edge("many signs were READ", () -> tokenIs(made("0:aaaab>1", "aaaac"), 0, -1, 0, 1, 5, 0, 1));
        edge("the LINE ended", () -> tokenIs(made("0:aaaab>1", "aaaa"), 0, -1, 0, 1, 5, 0, 1));
        edge("all of 24", () -> due("stuck()", made("", LINE_24).stuck(), 24));
        says(TERMS, "REACH of a TOKEN: the place behind the last sign that was READ for it; if the LINE ended while "
            + "STANDING was not DEAD, one more.");
        edge("DEAD ahead of the last sign", () -> due("REACH", made("0:a", "abb").token(0, 3), 2));
        edge("DEAD by the last sign", () -> due("REACH", made("0:a", "ab").token(0, 3), 2));
        edge("the LINE ended", () -> due("REACH", made("0:a", "a").token(0, 3), 2));
        edge("the LINE ended behind a STUCK one", () -> due("REACH", made("0:abc", "ab").token(0, 3), 3));
        edge("the LINE ended far behind the TOKEN", () -> due("REACH", made("0:a|a.*a", "abbb").token(0, 3), 5));
        edge("the last sign of a LINE without RULES", () -> due("REACH", made("", "ab").token(1, 3), 2));
    }

    private void memory() {
        says(TERMS, "behind its last place with a WINNER (from p on, if it has none) each STANDING that was come to "
            + "(not a DEAD one), with its MODE and the place behind the sign, is REMEMBERED as failed;");
        edge("behind the last place with a WINNER", () -> {
            LongestTokens x = made("0:a;0:aaaab", "aaac");
            // Of the first TOKEN a, of the second one: the places 2 and 3, and 3 with another STANDING.
            tells("read()", x, x.read(), 4 + 3 + 2 + 1, 4 + 3 + 2 + 1, 3);
        });
        edge("the last place with a WINNER itself", () -> {
            LongestTokens x = made("0:a", "aaa");
            tells("read()", x, x.read(), 2 + 2 + 1, 5, 0);
        });
        edge("two places with a WINNER", () -> {
            LongestTokens x = made("0:a|aaa|aaaaab", "aaaac");
            // The first TOKEN has 3 signs: behind it one STANDING; the a at place 3 is read once more, then the c.
            tells("read()", x, x.read(), 5 + 2 + 1, 8, 1);
        });
        edge("from p on without a WINNER", () -> {
            LongestTokens x = made("0:abc", "ab");
            tells("read()", x, x.read(), 2 + 1, 3, 2);
        });
        edge("not DEAD ones", () -> {
            LongestTokens x = made("0:ab", "cdac");
            tells("read()", x, x.read(), 1 + 1 + 2 + 1, 5, 1);
        });
        edge("with its MODE", () -> {
            LongestTokens x = made("0:a=1;1:a=0;0:a*b;1:a*b", "aaaaa");
            tells("read()", x, x.read(), 15, 5 + 4 + 2 + 2 + 1, 4 + 3);
        });
        edge("with the place behind the sign", () -> {
            LongestTokens x = made("0:a*b", "aac");
            // The second TOKEN comes to what the first one came to behind place 1; behind place 2 that was DEAD.
            tells("read()", x, x.read(), 3 + 2 + 1, 3 + 1 + 1, 2);
        });
        edge("with another place", () -> {
            LongestTokens x = made("0:a*b", "acac");
            // The same STANDING behind place 0 and behind place 2.
            tells("read()", x, x.read(), 2 + 1 + 2 + 1, 6, 2);
        });
        says(TERMS, "READING stops, too, as soon as a REMEMBERED one is come to (it is not READ further; its sign was "
            + "READ).");
        edge("it is not READ further", () -> {
            LongestTokens x = made("0:a;0:a*b", "aaaaaa");
            tells("read()", x, x.read(), 21, 6 + 2 + 2 + 2 + 2 + 1, 5);
        });
        edge("the first sign comes to it", () -> {
            LongestTokens x = made("0:a*b", "aaaa");
            tells("read()", x, x.read(), 10, 4 + 1 + 1 + 1, 4);
        });
        edge("another STANDING at the place", () -> {
            LongestTokens x = made("0:aaac;0:ab", "aa");
            tells("read()", x, x.read(), 3, 3, 3);
        });
        says(TERMS, "WITH MEMORY: the same TOKENS;");
        edge("a TOKEN behind REMEMBERED ones", () -> {
            LongestTokens x = made("0:a;0:a*b;0:aa*c", "aaad");
            LongestTokens y = made("0:a;0:a*b;0:aa*c", "aaad");
            x.read();
            due("the TOKENS", stateOf(x), stateOf(y));
        });
    }

    private void keptOnes() {
        says(TERMS, "CHANGES: a sign becomes another one, one comes, one goes, at a place q.");
        edge("at the first place", () -> {
            LongestTokens x = made("", "abc");
            x.becomes(0, 7);
            lineIs(x, "hbc");
            x.comes(0, 6);
            lineIs(x, "ghbc");
            x.goes(0);
            lineIs(x, "hbc");
        });
        edge("at the last place", () -> {
            LongestTokens x = made("", "abc");
            x.becomes(2, 7);
            lineIs(x, "abh");
            x.comes(2, 6);
            lineIs(x, "abgh");
            x.goes(3);
            lineIs(x, "abg");
        });
        says(TERMS, "KEPT: TOKENS of the row as it was, from the first one on, whose REACH is at most q.");
        edge("REACH is q", () -> {
            LongestTokens x = made("0:a;0:b", "abab");
            due("REACH", x.token(1, 3), 3);
            tells("becomes(3, 0)", x, x.becomes(3, 0), 4, 2, 2, 0);
        });
        edge("REACH is one more than q", () -> {
            LongestTokens x = made("0:a;0:b", "abab");
            due("REACH", x.token(1, 3), 3);
            tells("becomes(2, 1)", x, x.becomes(2, 1), 4, 1, 2, 1);
        });
        edge("REACH is at most q only behind one whose is not", () -> {
            LongestTokens x = made("0:a;0:abbbc;0:b", "abbb");
            due("REACH of the second", x.token(1, 3), 3);
            tells("becomes(3, 0)", x, x.becomes(3, 0), 4, 0, 4, 0);
        });
        edge("all of them", () -> {
            LongestTokens x = made("", "ab");
            tells("comes(2, 0)", x, x.comes(2, 0), 3, 2, 1, 0);
        });
        edge("the LINE ended", () -> {
            LongestTokens x = made("0:a;0:b", "ab");
            due("REACH", x.token(1, 3), 3);
            tells("comes(2, 0)", x, x.comes(2, 0), 3, 1, 2, 0);
        });
        edge("of an empty LINE", () -> {
            LongestTokens x = made("0:a", "");
            tells("comes(0, 0)", x, x.comes(0, 0), 1, 0, 1, 0);
        });
    }

    private void metOnes() {
        says(TERMS, "ANEW: then TOKENS are cut anew, till the place behind one, in the changed LINE, is that behind an "
            + "old TOKEN (moved by 1 if a sign came or went),");
        edge("moved by none", () -> {
            LongestTokens x = made("0:.", "abcd");
            tells("becomes(1, 0)", x, x.becomes(1, 0), 4, 0, 2, 2);
        });
        edge("a sign came", () -> {
            LongestTokens x = made("0:a;0:b;0:bb", "aba");
            tells("comes(1, 1)", x, x.comes(1, 1), 3, 0, 2, 1);
        });
        edge("a sign went", () -> {
            LongestTokens x = made("0:a;0:b;0:bb", "abba");
            tells("goes(1)", x, x.goes(1), 3, 0, 2, 1);
        });
        edge("an old TOKEN that is KEPT", () -> {
            LongestTokens x = made("", "abc");
            tells("comes(1, 5)", x, x.comes(1, 5), 4, 1, 1, 2);
        });
        edge("place 0 is behind no old TOKEN", () -> {
            LongestTokens x = made("", "abc");
            tells("comes(0, 5)", x, x.comes(0, 5), 4, 0, 2, 2);
        });
        edge("no sign is left", () -> {
            LongestTokens x = made("0:a", "a");
            tells("goes(0)", x, x.goes(0), 0, 0, 0, 0);
        });
        says(TERMS, "q is ahead of it (or at it, if the sign went),");
        edge("q is at it, the sign became another", () -> {
            LongestTokens x = made("0:a;0:b;0:c", "abab");
            tells("becomes(2, 2)", x, x.becomes(2, 2), 4, 1, 2, 1);
        });
        edge("q is one ahead of it, the sign became another", () -> {
            LongestTokens x = made("0:a;0:b;0:c", "abab");
            tells("becomes(0, 2)", x, x.becomes(0, 2), 4, 0, 1, 3);
        });
        edge("q is at it, a sign came", () -> {
            LongestTokens x = made("0:a;0:b", "abab");
            // The place 2 is that behind the first old one, moved by 1, but q is at it.
            tells("comes(2, 0)", x, x.comes(2, 0), 5, 1, 2, 2);
        });
        edge("q is at it, the sign went", () -> {
            LongestTokens x = made("0:a;0:b", "abab");
            tells("goes(2)", x, x.goes(2), 3, 1, 1, 1);
        });
        edge("q is behind it, the sign went", () -> {
            LongestTokens x = made("0:aa;0:a;0:aac;0:b", "aaab");
            // aa, a, b; the first one's REACH is 3 and so KEPT by no change ahead of that.
            due("REACH of the first", x.token(0, 3), 3);
            tells("goes(2)", x, x.goes(2), 2, 0, 1, 1);
        });
        says(TERMS, "and the MODES then are as they were behind that old one; all old ones behind it are MET.");
        edge("another MODE on top", () -> {
            LongestTokens x = made("0:a=1;0:b=2;1:.=1;2:.=2", "acc");
            tells("becomes(0, 1)", x, x.becomes(0, 1), 3, 0, 3, 0);
        });
        edge("the same MODE on top of others", () -> {
            LongestTokens x = made("0:a>0;0:b;0:c", "abcb");
            tells("becomes(0, 2)", x, x.becomes(0, 2), 4, 0, 4, 0);
        });
        edge("MODES that are as they were later on", () -> {
            LongestTokens x = made("0:a>0;0:b", "aaaaaab");
            tells("becomes(0, 1)", x, x.becomes(0, 1), 7, 0, 5, 2);
        });
        edge("all but the first", () -> {
            LongestTokens x = made("0:.", LINE_24);
            tells("becomes(0, 3)", x, x.becomes(0, 3), 24, 0, 1, 23);
        });
        edge("none, met by the last one", () -> {
            LongestTokens x = made("0:.", "ab");
            tells("becomes(1, 3)", x, x.becomes(1, 3), 2, 0, 2, 0);
        });
        says(TERMS, "If the old one's are never met, MET is 0.");
        edge("the MODES never are", () -> {
            LongestTokens x = made("0:a>1;0:b;1:.", "accc");
            tells("becomes(0, 1)", x, x.becomes(0, 1), 4, 0, 4, 0);
        });
        edge("the end of the LINE is not behind an old one's", () -> {
            LongestTokens x = made("0:a>1;0:.", "abbb");
            tells("goes(0)", x, x.goes(0), 3, 0, 3, 0);
        });
    }

    private void refusals() {
        says(TERMS, "Sets are bits (of RULES; of signs, a is 1).");
        edge("the first and the last RULE", () -> {
            LongestTokens x = made("0:a;0:b;0:c;0:d;0:e;0:f;0:g;0:h", "ah");
            due("matches(0, 1)", x.matches(0, 1), 1);
            due("matches(1, 2)", x.matches(1, 2), 128);
        });
        edge("the first and the last sign", () -> {
            LongestTokens x = made("0:aa;1:ah", "a");
            tells("stands(0, 0, 1)", x, x.stands(0, 0, 1), 1, 1);
            tells("stands(1, 0, 1)", x, x.stands(1, 0, 1), 1, 128);
        });
        says(TERMS, "Questions change nothing.");
        edge("each of them", () -> {
            LongestTokens x = busy();
            for (Asked asked : questions(x)) {
                String state = stateOf(x);
                long first = asked.call().answer();
                due("the state behind " + asked.name(), stateOf(x), state);
                due(asked.name() + " once more", asked.call().answer(), first);
            }
            due("what is kept", x.again(1), true);
            lineIs(x, "abcbac");
        });
        edge("those that answer that there is none", () -> {
            LongestTokens x = busy();
            for (Asked asked : none(x)) {
                String state = stateOf(x);
                due(asked.name() + " is below NONE", asked.call().answer() < -1, true);
                due("the state behind " + asked.name(), stateOf(x), state);
            }
        });
        edge("each what of rule(), token() and count()", () -> {
            LongestTokens x = busy();
            x.cut();
            String state = stateOf(x);
            long[] row = Check.rowOf(x);
            askEachWhat(x);
            due("the state", stateOf(x), state);
            Check.row("the ROW", x, row);
        });
        says(TERMS, "Refused calls answer NONE, or false, and change nothing but THE TEXT,");
        edge("each of them", () -> {
            LongestTokens x = busy();
            for (Asked asked : refused(x)) {
                String state = stateOf(x);
                due(asked.name(), asked.call().answer(), -1);
                due("the state behind " + asked.name(), stateOf(x), state);
            }
        });
        edge("those that answer false", () -> {
            LongestTokens x = busy();
            String state = stateOf(x);
            due("end(5)", x.end(5), false);
            due("end(-1)", x.end(-1), false);
            due("keep(2)", x.keep(2), false);
            due("keep(-1)", x.keep(-1), false);
            due("again(0)", x.again(0), false);
            due("again(2)", x.again(2), false);
            due("the state", stateOf(x), state);
        });
        edge("undo() of none", () -> {
            LongestTokens x = busy();
            x.again(1);
            x.cut();
            String state = stateOf(x);
            due("undo()", x.undo(), -1);
            due("the state", stateOf(x), state);
            Check.row("the ROW", x, 3, 4, 6);
        });
        edge("sign() beyond 80", () -> {
            LongestTokens x = busy();
            for (int i = 1; i < 20; i++) {
                x.sign(0);
            }
            String state = stateOf(x);
            due("sign()", x.sign(0), -1);
            due("the state", stateOf(x), state);
        });
        edge("texts that can't be read", () -> {
            LongestTokens x = busy();
            x.end(0);
            String state = stateOf(x);
            due("rules()", Check.rules(x, "0:a|"), -5);
            due("rules()", Check.rules(x, "0:aaaaaaaaaaa"), -100);
            due("line()", Check.line(x, "abi"), -3);
            due("day()", Check.day(x, "d00d"), -5);
            due("the state", stateOf(x), state);
        });
        edge("those of an object without anything", () -> {
            LongestTokens x = new LongestTokens();
            String state = stateOf(x);
            due("undo()", x.undo(), -1);
            due("goes(0)", x.goes(0), -1);
            due("mends(0)", x.mends(0), -1);
            due("again(1)", x.again(1), false);
            due("the state", stateOf(x), state);
        });
        says(TERMS, "which a call that can read it empties, whatever it answers.");
        edge("rules()", () -> emptiesText("0:a", "x", x -> x.rules()));
        edge("line()", () -> emptiesText("ab", "x", x -> x.line()));
        edge("day()", () -> emptiesText("d00", "x", x -> x.day()));
        edge("day() that does nothing", () -> emptiesText("d20", "d", x -> x.day()));
        edge("an empty one", () -> emptiesText("", "", x -> x.rules()));
        edge("no other call", () -> {
            LongestTokens x = busy();
            for (Asked asked : questions(x)) {
                asked.call().answer();
                due("count(5) behind " + asked.name(), x.count(5), 4);
            }
            for (Asked asked : none(x)) {
                asked.call().answer();
                due("count(5) behind " + asked.name(), x.count(5), 4);
            }
            askEachWhat(x);
            due("count(5) behind each what", x.count(5), 4);
            x.becomes(0, 6);
            x.comes(0, 6);
            x.goes(0);
            x.sheet(0, 3, 0, 0);
            x.undo();
            x.sheet(3, 0, 0, 0);
            x.keep(0);
            x.again(0);
            x.undo();
            due("count(5) behind changes", x.count(5), 4);
        });
        says(TERMS, "NONE comes ahead of other answers below 0;");
        edge("ahead of -2", () -> {
            LongestTokens x = made("0:a;0:a;1:b", "ab");
            due("sheet() of another kind, n below 0", x.sheet(4, -1, 0, 0), -1);
            due("like() of another i, nothing kept", x.like(2), -1);
            due("longest() in another MODE, none there", x.longest(4, 1), -1);
            due("longest() of no place", x.longest(2, 3), -1);
            due("overlap() of one RULE", x.overlap(2, 2), -1);
            due("fewest() of no stretch", x.fewest(1, 3), -1);
            due("becomes() of no sign", x.becomes(0, 8), -1);
            due("becomes() of no place", x.becomes(2, 0), -1);
        });
        edge("ahead of -3", () -> {
            LongestTokens x = made("0:a;1:b", LINE_24);
            due("a missing sheet, n above 24", x.sheet(3, 25, 0, 0), -1);
            due("overlap() of two MODES, no such RULE", x.overlap(1, 2), -1);
            due("overlap() of no such RULE, two MODES", x.overlap(-1, 1), -1);
            due("comes() to 24, no such place", x.comes(25, 0), -1);
            due("comes() to 24, no such sign", x.comes(0, -1), -1);
        });
    }

    private static LongestTokens busy() {
        LongestTokens x = made("0:a|ab*c>1;1:b+<;0:a;1:a*", "abcbac");
        x.keep(1);
        x.becomes(5, 3);
        Check.say(x, "r00b");
        return x;
    }

    private static List<Asked> questions(LongestTokens x) {
        return List.of(new Asked("rule", () -> x.rule(0, 2)), new Asked("at", () -> x.at(5)),
            new Asked("cut", x::cut), new Asked("token", () -> x.token(1, 3)), new Asked("modes", () -> x.modes(0)),
            new Asked("holds", () -> x.holds(3)), new Asked("stuck", x::stuck), new Asked("by", () -> x.by(0)),
            new Asked("like", () -> x.like(1)), new Asked("moded", () -> x.moded(1)),
            new Asked("readers", () -> x.readers(2)), new Asked("read", x::read), new Asked("twice", x::twice),
            new Asked("longest", () -> x.longest(0, 0)), new Asked("matches", () -> x.matches(0, 3)),
            new Asked("stands", () -> x.stands(0, 0, 1)), new Asked("states", () -> x.states(0)),
            new Asked("shortest", () -> x.shortest(0)), new Asked("idle", x::idle),
            new Asked("overlap", () -> x.overlap(0, 2)), new Asked("ways", () -> x.ways(0, 3)),
            new Asked("fewest", () -> x.fewest(0, 3)), new Asked("touched", () -> x.touched(2)),
            new Asked("same", () -> x.same(0, 0, 1, 4, 5)), new Asked("mends", () -> x.mends(5)),
            new Asked("years", () -> x.years(7, 20)), new Asked("count", () -> x.count(3)),
            new Asked("row", () -> x.row(0)));
    }

    private static void askEachWhat(LongestTokens x) {
        for (int what = 0; what < 9; what++) {
            x.count(what);
        }
        for (int what = 0; what < 5; what++) {
            x.rule(0, what);
        }
        for (int what = 0; what < 6; what++) {
            x.token(0, what);
        }
    }

    private static List<Asked> none(LongestTokens x) {
        return List.of(new Asked("modes(9)", () -> x.modes(9)), new Asked("by(4)", () -> x.by(4)),
            new Asked("like(0)", () -> x.like(0)), new Asked("longest(2, 0)", () -> x.longest(2, 0)),
            new Asked("shortest(2)", () -> x.shortest(2)), new Asked("overlap(1, 3)", () -> x.overlap(1, 3)),
            new Asked("overlap(0, 1)", () -> x.overlap(0, 1)), new Asked("fewest(1, 2)", () -> x.fewest(1, 2)),
            new Asked("sheet(0, -1, 0, 0)", () -> x.sheet(0, -1, 0, 0)),
            new Asked("becomes(0, 0)", () -> x.becomes(0, 0)));
    }

    private static List<Asked> refused(LongestTokens x) {
        return List.of(new Asked("goes(-1)", () -> x.goes(-1)), new Asked("goes(6)", () -> x.goes(6)),
            new Asked("becomes(6, 0)", () -> x.becomes(6, 0)), new Asked("becomes(0, 8)", () -> x.becomes(0, 8)),
            new Asked("comes(7, 0)", () -> x.comes(7, 0)), new Asked("comes(0, -1)", () -> x.comes(0, -1)),
            new Asked("sheet(4, 3, 0, 0)", () -> x.sheet(4, 3, 0, 0)),
            new Asked("sheet(3, 25, 0, 0)", () -> x.sheet(3, 25, 0, 0)), new Asked("holds(6)", () -> x.holds(6)),
            new Asked("like(2)", () -> x.like(2)), new Asked("moded(4)", () -> x.moded(4)),
            new Asked("readers(6)", () -> x.readers(6)), new Asked("longest(0, 7)", () -> x.longest(0, 7)),
            new Asked("matches(0, 7)", () -> x.matches(0, 7)), new Asked("stands(0, 1, 1)", () -> x.stands(0, 1, 1)),
            new Asked("states(4)", () -> x.states(4)), new Asked("shortest(4)", () -> x.shortest(4)),
            new Asked("overlap(1, 1)", () -> x.overlap(1, 1)), new Asked("ways(2, 1)", () -> x.ways(2, 1)),
            new Asked("fewest(0, 7)", () -> x.fewest(0, 7)), new Asked("touched(6)", () -> x.touched(6)),
            new Asked("same(0, 1, 1, 0, 1)", () -> x.same(0, 1, 1, 0, 1)), new Asked("mends(6)", () -> x.mends(6)),
            new Asked("years(1, 21)", () -> x.years(1, 21)), new Asked("count(9)", () -> x.count(9)));
    }

    private static void emptiesText(String good, String wrong, Call reader) {
        for (String text : new String[] {good, wrong}) {
            LongestTokens x = made("0:a", "a");
            Check.say(x, text);
            reader.answer(x);
            due("count(5) behind " + text, x.count(5), 0);
            due("end(1) behind " + text, x.end(1), false);
        }
    }

    private void rows() {
        says(TERMS, "ROW: numbers told last by a call that says so.");
        edge("of each question its own numbers alone", () -> {
            LongestTokens x = busy();
            LongestTokens y = busy();
            List<Asked> asked = questions(x);
            List<Asked> once = questions(y);
            for (int i = 0; i < asked.size(); i++) {
                asked.get(i).call().answer();
                asked.get(i).call().answer();
                y.modes(-1);
                once.get(i).call().answer();
                boolean tells = !List.of("rule", "at", "token", "holds", "count", "row").contains(asked.get(i).name());
                if (tells) {
                    Check.row(asked.get(i).name() + " twice", x, Check.rowOf(y));
                }
            }
        });
        edge("of each change its own numbers alone", () -> {
            LongestTokens x = made("0:a", "aaaa");
            x.cut();
            tells("becomes(3, 1)", x, x.becomes(3, 1), 4, 2, 2, 0);
            x.cut();
            tells("comes(4, 1)", x, x.comes(4, 1), 5, 4, 1, 0);
            x.cut();
            tells("goes(4)", x, x.goes(4), 4, 4, 0, 0);
            x.cut();
            tells("day()", x, Check.day(x, "d00"), 1, 0, 3);
        });
        says(TERMS, "the ROW stays with each answer that tells of a refusal or that there is none,");
        edge("refusals", () -> {
            LongestTokens x = busy();
            x.cut();
            long[] row = Check.rowOf(x);
            for (Asked asked : refused(x)) {
                asked.call().answer();
                Check.row("behind " + asked.name(), x, row);
            }
        });
        edge("texts that can't be read", () -> {
            LongestTokens x = made("0:a", "aba");
            x.cut();
            Check.rules(x, "x");
            Check.line(x, "x");
            Check.day(x, "x");
            Check.row("behind them", x, 1, 2, 3);
        });
        edge("false", () -> {
            LongestTokens x = made("0:a", "aba");
            x.cut();
            due("end(1)", x.end(1), false);
            due("keep(2)", x.keep(2), false);
            due("again(0)", x.again(0), false);
            due("again(2)", x.again(2), false);
            Check.row("behind them", x, 1, 2, 3);
        });
        edge("there is none", () -> {
            LongestTokens x = busy();
            x.cut();
            long[] row = Check.rowOf(x);
            for (Asked asked : none(x)) {
                asked.call().answer();
                Check.row("behind " + asked.name(), x, row);
            }
        });
        edge("comes() to 24", () -> {
            LongestTokens full = made("", LINE_24);
            full.modes(-1);
            due("comes() to 24", full.comes(0, 0), -3);
            Check.row("behind comes()", full, 0);
        });
        edge("an answer 0 with its ROW is not that", () -> {
            LongestTokens x = made("0:.", "aba");
            x.cut();
            tells("stuck()", x, x.stuck(), 0);
            x.cut();
            tells("by(NONE)", x, x.by(-1), 0);
            x.cut();
            tells("twice()", x, x.twice(), 0, 0);
            x.cut();
            tells("fewest(1, 1)", x, x.fewest(1, 1), 0);
        });
        says(TERMS, "and with calls that do not tell of it.");
        edge("each of them", () -> {
            LongestTokens x = made("0:a", "aba");
            x.cut();
            x.sign(0);
            x.end(0);
            Check.rules(x, "0:a;0:b");
            Check.line(x, "bb");
            x.rule(0, 0);
            x.at(0);
            x.sheet(2, 4, 0, 1);
            x.sheet(3, 0, 0, 0);
            x.undo();
            x.token(0, 0);
            x.holds(0);
            x.keep(0);
            x.again(0);
            x.count(2);
            x.row(0);
            Check.row("behind them", x, 1, 2, 3);
        });
        edge("those that throw", () -> {
            LongestTokens x = made("0:a", "aba");
            x.cut();
            noSuch("rule(1, 0)", () -> x.rule(1, 0));
            noSuch("at(3)", () -> x.at(3));
            noSuch("token(3, 0)", () -> x.token(3, 0));
            noSuch("row(3)", () -> x.row(3));
            Check.row("behind them", x, 1, 2, 3);
        });
    }
}
