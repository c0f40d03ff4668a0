/** Boundaries that promises 9 to 19 name: TOKENS, and signs that are READ. */
final class TokenEdges extends Edges {
    @Override
    void list() {
        cut();
        token();
        modes();
        holds();
        stuck();
        by();
        like();
        moded();
        readers();
        read();
        twice();
    }

    private void cut() {
        says(9, "The LINE is cut: how many TOKENS; the ROW: the place behind each.");
        edge("an empty LINE", () -> {
            LongestTokens x = made("0:a", "");
            x.modes(-1);
            tells("cut()", x, x.cut(), 0);
        });
        edge("one TOKEN of one sign", () -> {
            LongestTokens x = made("0:a", "a");
            tells("cut()", x, x.cut(), 1, 1);
        });
        edge("one TOKEN of 24", () -> {
            LongestTokens x = made("0:.*", LINE_24);
            tells("cut()", x, x.cut(), 1, 24);
        });
        edge("24 TOKENS", () -> {
            LongestTokens x = made("0:.", LINE_24);
            tells("cut()", x, x.cut(), 24, 1, 2, 3, 4, 5, 6, 7, 8, 9, 10, 11, 12, 13, 14, 15, 16, 17, 18, 19, 20, 21,
                22, 23, 24);
        });
        edge("no RULES", () -> {
            LongestTokens x = made("", "ab");
            tells("cut()", x, x.cut(), 2, 1, 2);
        });
    }

    private void token() {
        says(10, "Of TOKEN k, what 0: its RULE (NONE: STUCK), 1: its first place, 2: the place behind it, 3: its "
            + "REACH, 4: the MODE in which it was cut, 5: how many MODES lie on one another behind it.");
        edge("the first RULE and the last", () -> {
            LongestTokens x = made("0:a;0:b;0:c;0:d;0:e;0:f;0:g;0:h", "ah");
            due("token(0, 0)", x.token(0, 0), 0);
            due("token(1, 0)", x.token(1, 0), 7);
        });
        edge("STUCK", () -> tokenIs(made("0:a", "b"), 0, -1, 0, 1, 1, 0, 1));
        edge("of 24 signs", () -> tokenIs(made("0:.*", LINE_24), 0, 0, 0, 24, 25, 0, 1));
        edge("the last one", () -> tokenIs(made("0:.", LINE_24), 23, 0, 23, 24, 25, 0, 1));
        edge("the MODE ahead of its ACT", () -> tokenIs(made("0:a=3;3:b>2", "ab"), 0, 0, 0, 1, 2, 0, 1));
        edge("the highest MODE", () -> tokenIs(made("0:a=3;3:b>2", "ab"), 1, 1, 1, 2, 3, 3, 2));
        edge("five MODES and a sixth that comes", () -> {
            LongestTokens x = made("0:a>0", "aaaaaa");
            due("token(3, 5)", x.token(3, 5), 5);
            due("token(4, 5)", x.token(4, 5), 5);
        });
        says(10, "NoSuchElementException: none such, another what.");
        edge("below the first TOKEN", () -> noSuch("token(-1, 0)", () -> made("0:a", "ab").token(-1, 0)));
        edge("behind the last TOKEN", () -> noSuch("token(2, 0)", () -> made("0:a", "ab").token(2, 0)));
        edge("behind 24", () -> noSuch("token(24, 0)", () -> made("0:a", LINE_24).token(24, 0)));
        edge("of an empty LINE", () -> noSuch("token(0, 0)", () -> made("0:a", "").token(0, 0)));
        edge("where one was", () -> {
            LongestTokens x = made("0:a", "ab");
            x.goes(1);
            noSuch("token(1, 0)", () -> x.token(1, 0));
        });
        edge("the least and the most", () -> {
            noSuch("token(MIN, 0)", () -> made("0:a", "ab").token(MIN, 0));
            noSuch("token(MAX, 0)", () -> made("0:a", "ab").token(MAX, 0));
        });
        edge("what -1", () -> noSuch("token(0, -1)", () -> made("0:a", "ab").token(0, -1)));
        edge("what 6", () -> noSuch("token(0, 6)", () -> made("0:a", "ab").token(0, 6)));
    }

    private void modes() {
        says(11, "MODES behind TOKEN k (NONE: at first): how many; the ROW: they, the lowest first.");
        edge("at first", () -> {
            LongestTokens x = made("0:a=1", "a");
            tells("modes(NONE)", x, x.modes(-1), 1, 0);
        });
        edge("at first of an empty LINE", () -> {
            LongestTokens x = new LongestTokens();
            tells("modes(NONE)", x, x.modes(-1), 1, 0);
        });
        edge("behind the first and the last TOKEN", () -> {
            LongestTokens x = made("0:a>1;1:a>3", "aa");
            tells("modes(0)", x, x.modes(0), 2, 0, 1);
            tells("modes(1)", x, x.modes(1), 3, 0, 1, 3);
        });
        edge("five", () -> {
            LongestTokens x = made("0:a>3;3:a>2;2:a>1;1:a>1", "aaaa");
            tells("modes(3)", x, x.modes(3), 5, 0, 3, 2, 1, 1);
        });
        says(11, "-2: no such TOKEN.");
        edge("-2", () -> refusesModes("aa", -2));
        edge("behind the last", () -> refusesModes("aa", 2));
        edge("the first of an empty LINE", () -> refusesModes("", 0));
        edge("behind 24", () -> refusesModes(LINE_24, 24));
        edge("the least and the most", () -> refusesModes("aa", MIN, MAX));
    }

    private static void refusesModes(String line, int... wrong) {
        LongestTokens x = made("0:a", line);
        refuses("modes", x, k -> x.modes(k), -2, wrong);
    }

    private void holds() {
        says(12, "The TOKEN that has place p: its number.");
        edge("the first and the last place of a TOKEN", () -> {
            LongestTokens x = made("0:aaa|b", "baaab");
            due("holds(0)", x.holds(0), 0);
            due("holds(1)", x.holds(1), 1);
            due("holds(3)", x.holds(3), 1);
            due("holds(4)", x.holds(4), 2);
        });
        edge("a STUCK one", () -> due("holds(1)", made("0:a", "ab").holds(1), 1));
        edge("the last of 24", () -> due("holds(23)", made("0:.", LINE_24).holds(23), 23));
        says(12, "NONE: no such place.");
        edge("-1", () -> due("holds(-1)", made("0:a", "aa").holds(-1), -1));
        edge("behind the last", () -> due("holds(2)", made("0:a", "aa").holds(2), -1));
        edge("of an empty LINE", () -> due("holds(0)", made("0:a", "").holds(0), -1));
        edge("behind 24", () -> due("holds(24)", made("0:.*", LINE_24).holds(24), -1));
        edge("the least and the most", () -> {
            due("holds(MIN)", made("0:a", "aa").holds(MIN), -1);
            due("holds(MAX)", made("0:a", "aa").holds(MAX), -1);
        });
    }

    private void stuck() {
        says(13, "How many TOKENS are STUCK; the ROW: of each its first place, and the place of the sign by which "
            + "STANDING was DEAD (NONE: the LINE ended).");
        edge("none", () -> {
            LongestTokens x = made("0:a", "aa");
            x.cut();
            tells("stuck()", x, x.stuck(), 0);
        });
        edge("none of an empty LINE", () -> {
            LongestTokens x = made("0:a", "");
            x.modes(-1);
            tells("stuck()", x, x.stuck(), 0);
        });
        edge("DEAD by its own sign", () -> {
            LongestTokens x = made("0:a", "ab");
            tells("stuck()", x, x.stuck(), 1, 1, 1);
        });
        edge("DEAD by a later sign", () -> {
            LongestTokens x = made("0:aaab;0:aa", "ab");
            tells("stuck()", x, x.stuck(), 2, 0, 1, 1, 1);
        });
        edge("the LINE ended", () -> {
            LongestTokens x = made("0:abc", "ab");
            tells("stuck()", x, x.stuck(), 2, 0, -1, 1, 1);
        });
        edge("all of 24", () -> {
            LongestTokens x = made("", LINE_24);
            due("stuck()", x.stuck(), 24);
            due("count(4)", x.count(4), 48);
            due("row(46)", x.row(46), 23);
            due("row(47)", x.row(47), 23);
        });
    }

    private void by() {
        says(14, "TOKENS whose RULE is k (NONE: STUCK ones): how many; the ROW: their numbers.");
        edge("the first and the last RULE", () -> {
            LongestTokens x = made("0:a;0:b", "aba");
            tells("by(0)", x, x.by(0), 2, 0, 2);
            tells("by(1)", x, x.by(1), 1, 1);
        });
        edge("STUCK ones", () -> {
            LongestTokens x = made("0:a", "bab");
            tells("by(NONE)", x, x.by(-1), 2, 0, 2);
        });
        edge("none of a RULE", () -> {
            LongestTokens x = made("0:a;0:b", "a");
            x.cut();
            tells("by(1)", x, x.by(1), 0);
        });
        edge("no STUCK one", () -> {
            LongestTokens x = made("0:a", "a");
            x.cut();
            tells("by(NONE)", x, x.by(-1), 0);
        });
        edge("STUCK ones without RULES", () -> {
            LongestTokens x = made("", "ab");
            tells("by(NONE)", x, x.by(-1), 2, 0, 1);
        });
        says(14, "-2: no such RULE.");
        edge("behind the last", () -> {
            LongestTokens x = made("0:a;0:b", "ab");
            refuses("by", x, k -> x.by(k), -2, 2);
        });
        edge("-2", () -> {
            LongestTokens x = made("0:a;0:b", "ab");
            refuses("by", x, k -> x.by(k), -2, -2);
        });
        edge("the first without RULES", () -> {
            LongestTokens x = made("", "ab");
            refuses("by", x, k -> x.by(k), -2, 0);
        });
        edge("the least and the most", () -> {
            LongestTokens x = made("0:a;0:b", "ab");
            refuses("by", x, k -> x.by(k), -2, MIN, MAX);
        });
    }

    /** RULES that are kept under i, others now. */
    private static LongestTokens keptUnder(int i, String rules, String rulesNow, String line) {
        LongestTokens x = made(rules, "h");
        x.keep(i);
        Check.rules(x, rulesNow);
        Check.line(x, line);
        return x;
    }

    private void like() {
        says(15, "Of the LINE by the RULES kept under i: how many TOKENS, from the first one on, have the same RULE "
            + "(its number) and the same place behind as by the RULES now;");
        edge("all", () -> {
            LongestTokens x = keptUnder(0, "0:a;0:bb", "0:a;0:bb", "abb");
            tells("like(0)", x, x.like(0), 2, 2, 0);
        });
        edge("all of 24", () -> {
            LongestTokens x = keptUnder(1, "0:.", "0:.;0:a", LINE_24);
            tells("like(1)", x, x.like(1), 24, 24, 0);
        });
        edge("none", () -> {
            LongestTokens x = keptUnder(0, "0:aa", "0:a", "aaa");
            tells("like(0)", x, x.like(0), 0, 2, 1);
        });
        edge("none of an empty LINE", () -> {
            LongestTokens x = keptUnder(0, "0:aa", "0:a", "");
            tells("like(0)", x, x.like(0), 0, 0, 0);
        });
        edge("the same place, another RULE", () -> {
            LongestTokens x = keptUnder(0, "0:a;0:b", "0:a;0:c;0:b", "ab");
            tells("like(0)", x, x.like(0), 1, 2, 0);
        });
        edge("the same RULE, another place", () -> {
            LongestTokens x = keptUnder(0, "0:a;0:bb", "0:a;0:b", "abb");
            tells("like(0)", x, x.like(0), 1, 2, 0);
        });
        edge("the same ones behind others don't count", () -> {
            LongestTokens x = keptUnder(0, "0:a;0:b;0:d", "0:a;0:d;0:d", "aba");
            tells("like(0)", x, x.like(0), 1, 3, 0);
        });
        edge("STUCK ones have the same, NONE", () -> {
            LongestTokens x = keptUnder(0, "0:a", "0:a;0:b", "aca");
            tells("like(0)", x, x.like(0), 3, 3, 1);
        });
        edge("fewer TOKENS by either of them", () -> {
            LongestTokens x = keptUnder(0, "0:a;0:b+", "0:a;0:b", "abb");
            tells("like(0)", x, x.like(0), 1, 2, 0);
            LongestTokens y = keptUnder(0, "0:a;0:b", "0:a;0:b+", "abb");
            tells("like(0)", y, y.like(0), 1, 3, 0);
        });
        edge("no RULES are kept", () -> {
            LongestTokens x = keptUnder(0, "", "0:a", "ab");
            tells("like(0)", x, x.like(0), 0, 2, 2);
        });
        says(15, "-2: nothing is kept;");
        edge("under 0", () -> {
            LongestTokens x = keptUnder(1, "0:a", "0:a", "a");
            refuses("like", x, i -> x.like(i), -2, 0);
        });
        edge("under 1", () -> {
            LongestTokens x = keptUnder(0, "0:a", "0:a", "a");
            refuses("like", x, i -> x.like(i), -2, 1);
        });
        says(15, "NONE: another i.");
        edge("-1", () -> refusesLike(-1));
        edge("2", () -> refusesLike(2));
        edge("the least and the most", () -> refusesLike(MIN, MAX));
    }

    private static void refusesLike(int... wrong) {
        LongestTokens x = keptUnder(0, "0:a", "0:a", "a");
        x.keep(1);
        refuses("like", x, i -> x.like(i), -1, wrong);
    }

    private void moded() {
        says(16, "TOKENS that were cut in a MODE: how many; the ROW: signs of all of them, how many are STUCK.");
        edge("the lowest MODE", () -> {
            LongestTokens x = made("0:aa=3;3:b", "caabc");
            tells("moded(0)", x, x.moded(0), 2, 3, 1);
        });
        edge("the highest MODE", () -> {
            LongestTokens x = made("0:aa=3;3:b", "caabc");
            tells("moded(3)", x, x.moded(3), 2, 2, 1);
        });
        edge("none in a MODE", () -> {
            LongestTokens x = made("0:aa=3;2:b", "caabc");
            tells("moded(2)", x, x.moded(2), 0, 0, 0);
        });
        edge("none of an empty LINE", () -> {
            LongestTokens x = made("0:a", "");
            tells("moded(0)", x, x.moded(0), 0, 0, 0);
        });
        edge("24", () -> {
            LongestTokens x = made("", LINE_24);
            tells("moded(0)", x, x.moded(0), 24, 24, 24);
        });
        says(16, "NONE: another MODE.");
        edge("-1", () -> refusesModed(-1));
        edge("4", () -> refusesModed(4));
        edge("the least and the most", () -> refusesModed(MIN, MAX));
    }

    private static void refusesModed(int... wrong) {
        LongestTokens x = made("0:a", "aa");
        refuses("moded", x, m -> x.moded(m), -1, wrong);
    }

    private void readers() {
        says(17, "TOKENS for which the sign at place p was READ (without MEMORY): how many; the ROW: the number of the "
            + "first, how many of these have it.");
        edge("the first place", () -> {
            LongestTokens x = made("0:a;0:aaab", "aaaac");
            tells("readers(0)", x, x.readers(0), 1, 0, 1);
        });
        edge("the last place", () -> {
            LongestTokens x = made("0:a;0:aaab", "aaaac");
            tells("readers(4)", x, x.readers(4), 4, 1, 1);
        });
        edge("the sign by which it was DEAD, and the one behind", () -> {
            LongestTokens x = made("0:ab", "abcd");
            tells("readers(2)", x, x.readers(2), 2, 0, 1);
            tells("readers(3)", x, x.readers(3), 1, 2, 1);
        });
        edge("without MEMORY", () -> {
            LongestTokens x = made("0:a*b", "aaaa");
            tells("readers(3)", x, x.readers(3), 4, 0, 1);
        });
        edge("24", () -> {
            LongestTokens x = made("0:a*b", A_24);
            tells("readers(23)", x, x.readers(23), 24, 0, 1);
        });
        says(17, "NONE: no such place.");
        edge("-1", () -> refusesReaders("aa", -1));
        edge("behind the last", () -> refusesReaders("aa", 2));
        edge("of an empty LINE", () -> refusesReaders("", 0));
        edge("behind 24", () -> refusesReaders(LINE_24, 24));
        edge("the least and the most", () -> refusesReaders("aa", MIN, MAX));
    }

    private static void refusesReaders(String line, int... wrong) {
        LongestTokens x = made("0:a", line);
        refuses("readers", x, p -> x.readers(p), -1, wrong);
    }

    private void read() {
        says(18, "Signs READ by CUTTING: how many; the ROW: WITH MEMORY how many, how many are REMEMBERED then.");
        edge("none of an empty LINE", () -> {
            LongestTokens x = made("0:a", "");
            tells("read()", x, x.read(), 0, 0, 0);
        });
        edge("one", () -> {
            LongestTokens x = made("0:a", "a");
            tells("read()", x, x.read(), 1, 1, 0);
        });
        edge("24 without RULES", () -> {
            LongestTokens x = made("", LINE_24);
            tells("read()", x, x.read(), 24, 24, 0);
        });
        edge("the most of 24", () -> {
            LongestTokens x = made("0:a*b", A_24);
            tells("read()", x, x.read(), 300, 24 + 23, 24);
        });
        edge("it is counted anew", () -> {
            LongestTokens x = made("0:a*b", "aaaa");
            tells("read()", x, x.read(), 10, 7, 4);
            tells("read() again", x, x.read(), 10, 7, 4);
            Check.line(x, "a");
            tells("read() of one", x, x.read(), 1, 1, 1);
        });
    }

    private void twice() {
        says(19, "Pairs of a STANDING (with its MODE) and a place that CUTTING comes to more than once, without MEMORY "
            + "(not DEAD ones): how many;");
        edge("once", () -> {
            LongestTokens x = made("0:ab", "ab");
            tells("twice()", x, x.twice(), 0, 0);
        });
        edge("twice", () -> {
            LongestTokens x = made("0:a*b", "aa");
            tells("twice()", x, x.twice(), 1, 2);
        });
        edge("another STANDING at the place", () -> {
            LongestTokens x = made("0:aab", "aa");
            tells("twice()", x, x.twice(), 0, 0);
        });
        edge("another place", () -> {
            LongestTokens x = made("0:ab", "aaa");
            tells("twice()", x, x.twice(), 0, 0);
        });
        edge("with its MODE", () -> {
            LongestTokens x = made("0:a=1;0:a*b;1:a=0;1:a*b", "aaa");
            tells("twice()", x, x.twice(), 0, 0);
        });
        edge("without MEMORY", () -> {
            LongestTokens x = made("0:a*b", "aaaa");
            tells("twice()", x, x.twice(), 3, 4);
        });
        edge("not DEAD ones", () -> {
            LongestTokens x = made("0:ab", "ad");
            due("readers(1)", x.readers(1), 2);
            tells("twice()", x, x.twice(), 0, 0);
        });
        edge("24 times", () -> {
            LongestTokens x = made("0:a*b", A_24);
            tells("twice()", x, x.twice(), 23, 24);
        });
        says(19, "the ROW: how often the one that is come to most often (0 without any).");
        edge("an empty LINE", () -> {
            LongestTokens x = made("0:a", "");
            tells("twice()", x, x.twice(), 0, 0);
        });
        edge("no RULES", () -> {
            LongestTokens x = made("", "aaa");
            tells("twice()", x, x.twice(), 0, 0);
        });
        edge("it is counted anew", () -> {
            LongestTokens x = made("0:a*b", "aaaa");
            tells("twice()", x, x.twice(), 3, 4);
            tells("twice() again", x, x.twice(), 3, 4);
            Check.line(x, "a");
            tells("twice() of one", x, x.twice(), 0, 0);
        });
    }
}
