/** Boundaries that promises 31 to 41 name: CHANGES, what is undone and what is kept. */
final class ChangeEdges extends Edges {
    @Override
    void list() {
        becomes();
        comes();
        goes();
        mends();
        day();
        dayThatIsBarred();
        dayFaults();
        undo();
        undoneOnes();
        forgottenOnes();
        years();
        keep();
        again();
        count();
        row();
    }

    /** A call that is refused: the LINE, what can be undone and the ROW stay. */
    private static void refuses(String line, long want, Call call) {
        LongestTokens x = made("0:a;0:b", line);
        x.modes(-1);
        due("answer", call.answer(x), want);
        lineIs(x, line);
        due("count(3)", x.count(3), 2);
        Check.row("refused", x, 0);
    }

    private void becomes() {
        says(31, "The sign at place q becomes s (0 .. 7): how many TOKENS there are then; the ROW: KEPT, how many were "
            + "cut ANEW, MET.");
        edge("the first sign at the first place", () -> {
            LongestTokens x = made("0:.", "bcd");
            tells("becomes(0, 0)", x, x.becomes(0, 0), 3, 0, 1, 2);
            lineIs(x, "acd");
        });
        edge("the last sign at the last place", () -> {
            LongestTokens x = made("0:.", "bcd");
            tells("becomes(2, 7)", x, x.becomes(2, 7), 3, 1, 2, 0);
            lineIs(x, "bch");
        });
        edge("the last place of 24", () -> {
            LongestTokens x = made("", LINE_24);
            tells("becomes(23, 0)", x, x.becomes(23, 0), 24, 23, 1, 0);
        });
        edge("the only sign", () -> {
            LongestTokens x = made("0:a", "a");
            tells("becomes(0, 1)", x, x.becomes(0, 1), 1, 0, 1, 0);
        });
        says(31, "-2: it is so;");
        edge("the first sign", () -> refuses("ah", -2, x -> x.becomes(0, 0)));
        edge("the last sign", () -> refuses("ah", -2, x -> x.becomes(1, 7)));
        says(31, "NONE: others.");
        edge("q is -1", () -> refuses("ah", -1, x -> x.becomes(-1, 0)));
        edge("q is n", () -> refuses("ah", -1, x -> x.becomes(2, 0)));
        edge("q is 0 of an empty LINE", () -> refuses("", -1, x -> x.becomes(0, 0)));
        edge("q is 24", () -> refuses(LINE_24, -1, x -> x.becomes(24, 0)));
        edge("s is -1", () -> refuses("ah", -1, x -> x.becomes(0, -1)));
        edge("s is 8", () -> refuses("ah", -1, x -> x.becomes(0, 8)));
        edge("the least and the most", () -> {
            refuses("ah", -1, x -> x.becomes(MIN, 0));
            refuses("ah", -1, x -> x.becomes(MAX, 0));
            refuses("ah", -1, x -> x.becomes(0, MIN));
            refuses("ah", -1, x -> x.becomes(0, MAX));
        });
    }

    private void comes() {
        says(32, "A sign s comes to place q (0 .. n), those from there on go one place on: likewise.");
        edge("to the first place", () -> {
            LongestTokens x = made("0:a;0:b", "ab");
            tells("comes(0, 0)", x, x.comes(0, 0), 3, 0, 2, 1);
            lineIs(x, "aab");
        });
        edge("to the last place", () -> {
            LongestTokens x = made("0:a;0:b", "ab");
            // The place behind the sign that came is that behind the old a, moved by 1.
            tells("comes(1, 7)", x, x.comes(1, 7), 3, 0, 2, 1);
            lineIs(x, "ahb");
        });
        edge("behind the last place", () -> {
            LongestTokens x = made("0:a;0:b", "ab");
            tells("comes(2, 1)", x, x.comes(2, 1), 3, 1, 2, 0);
            lineIs(x, "abb");
        });
        edge("to an empty LINE", () -> {
            LongestTokens x = made("0:a;0:b", "");
            tells("comes(0, 7)", x, x.comes(0, 7), 1, 0, 1, 0);
            lineIs(x, "h");
        });
        edge("as the 24th", () -> {
            LongestTokens x = made("", LINE_24.substring(1));
            tells("comes(23, 0)", x, x.comes(23, 0), 24, 23, 1, 0);
            lineIs(x, LINE_24.substring(1) + "a");
        });
        says(32, "-3: there are 24;");
        edge("at the first place", () -> refuses(LINE_24, -3, x -> x.comes(0, 0)));
        edge("behind the last place", () -> refuses(LINE_24, -3, x -> x.comes(24, 7)));
        edge("23 again", () -> {
            LongestTokens x = made("", LINE_24);
            x.goes(0);
            due("comes(0, 0)", x.comes(0, 0), 24);
        });
        says(32, "NONE: others.");
        edge("q is -1", () -> refuses("ah", -1, x -> x.comes(-1, 0)));
        edge("q is n + 1", () -> refuses("ah", -1, x -> x.comes(3, 0)));
        edge("q is 1 of an empty LINE", () -> refuses("", -1, x -> x.comes(1, 0)));
        edge("q is 25", () -> refuses(LINE_24, -1, x -> x.comes(25, 0)));
        edge("s is -1", () -> refuses("ah", -1, x -> x.comes(0, -1)));
        edge("s is 8", () -> refuses("ah", -1, x -> x.comes(0, 8)));
        edge("the least and the most", () -> {
            refuses("ah", -1, x -> x.comes(MIN, 0));
            refuses("ah", -1, x -> x.comes(MAX, 0));
            refuses("ah", -1, x -> x.comes(0, MIN));
            refuses("ah", -1, x -> x.comes(0, MAX));
        });
    }

    private void goes() {
        says(33, "The sign at place q goes: likewise.");
        edge("the first", () -> {
            LongestTokens x = made("0:a;0:b", "abb");
            tells("goes(0)", x, x.goes(0), 2, 0, 1, 1);
            lineIs(x, "bb");
        });
        edge("the last", () -> {
            LongestTokens x = made("0:a;0:b", "abb");
            tells("goes(2)", x, x.goes(2), 2, 1, 1, 0);
            lineIs(x, "ab");
        });
        edge("the only one", () -> {
            LongestTokens x = made("0:a;0:b", "b");
            tells("goes(0)", x, x.goes(0), 0, 0, 0, 0);
            lineIs(x, "");
        });
        edge("the last of 24", () -> {
            LongestTokens x = made("", LINE_24);
            tells("goes(23)", x, x.goes(23), 23, 23, 0, 0);
        });
        says(33, "NONE: no such place.");
        edge("-1", () -> refuses("ah", -1, x -> x.goes(-1)));
        edge("n", () -> refuses("ah", -1, x -> x.goes(2)));
        edge("0 of an empty LINE", () -> refuses("", -1, x -> x.goes(0)));
        edge("24", () -> refuses(LINE_24, -1, x -> x.goes(24)));
        edge("the least and the most", () -> {
            refuses("ah", -1, x -> x.goes(MIN));
            refuses("ah", -1, x -> x.goes(MAX));
        });
    }

    private void mends() {
        says(34, "By which sign (0 .. 7, of equal ones the first; the one that is there, too) at place q there would "
            + "be the fewest STUCK TOKENS: it; the ROW: how many.");
        edge("the first sign", () -> {
            LongestTokens x = made("0:a", "b");
            tells("mends(0)", x, x.mends(0), 0, 0);
        });
        edge("the last sign", () -> {
            LongestTokens x = made("0:h", "b");
            tells("mends(0)", x, x.mends(0), 7, 0);
        });
        edge("of equal ones the first", () -> {
            LongestTokens x = made("0:c|g", "b");
            tells("mends(0)", x, x.mends(0), 2, 0);
        });
        edge("all are equal", () -> {
            LongestTokens x = made("", "hh");
            tells("mends(1)", x, x.mends(1), 0, 2);
        });
        edge("the one that is there", () -> {
            LongestTokens x = made("0:f", "ff");
            tells("mends(1)", x, x.mends(1), 5, 0);
        });
        edge("the last place of 24, all STUCK", () -> {
            LongestTokens x = made("", LINE_24);
            tells("mends(23)", x, x.mends(23), 0, 24);
        });
        edge("nothing becomes another", () -> {
            LongestTokens x = made("0:a", "bb");
            String state = stateOf(x);
            x.mends(0);
            due("the state", stateOf(x), state);
        });
        says(34, "NONE: no such place.");
        edge("-1", () -> refuses("ah", -1, x -> x.mends(-1)));
        edge("n", () -> refuses("ah", -1, x -> x.mends(2)));
        edge("0 of an empty LINE", () -> refuses("", -1, x -> x.mends(0)));
        edge("24", () -> refuses(LINE_24, -1, x -> x.mends(24)));
        edge("the least and the most", () -> {
            refuses("ah", -1, x -> x.mends(MIN));
            refuses("ah", -1, x -> x.mends(MAX));
        });
    }

    private static void dayIs(String line, String day, String want, int done, long barred) {
        LongestTokens x = made("", line);
        tells("day() of " + day, x, Check.day(x, day), done, barred, want.length());
        lineIs(x, want);
    }

    private void day() {
        says(35, "THE TEXT tells A DAY (an empty one: nothing),");
        edge("an empty one", () -> dayIs("ab", "", "ab", 0, 0));
        edge("an empty one leaves what can be undone", () -> {
            LongestTokens x = made("0:a", "ab");
            Check.day(x, "");
            due("count(3)", x.count(3), 2);
        });
        says(35, "CHANGES one behind another, without signs between: r, a place, a sign a .. h (becomes()), i, a "
            + "place, a sign (comes()), d, a place (goes());");
        edge("one of each", () -> {
            dayIs("ab", "r00h", "hb", 1, 0);
            dayIs("ab", "i02h", "abh", 1, 0);
            dayIs("ab", "d01", "a", 1, 0);
        });
        edge("the first and the last sign", () -> dayIs("bb", "r00ar01h", "ah", 2, 0));
        edge("as many as THE TEXT can tell", () -> {
            dayIs("", "i00a".repeat(20), A_24.substring(4), 20, 0);
            dayIs(A_24, "d00".repeat(24), "", 24, 0);
        });
        edge("a sign between", () -> {
            dayFault("d00,d00", -4);
            dayFault("d00 d00", -4);
        });
        says(35, "a place: two digits:");
        edge("00 and 23", () -> dayIs(LINE_24, "r00hr23a", "h" + LINE_24.substring(1, 23) + "a", 2, 0));
        edge("99 is read, though no place", () -> dayIs("ab", "d99", "ab", 0, 1));
        edge("10 is ten", () -> dayIs(A_24, "r10b", "aaaaaaaaaabaaaaaaaaaaaaa", 1, 0));
        edge("one digit", () -> {
            dayFault("d0", -3);
            dayFault("r0a", -3);
        });
        edge("three digits", () -> {
            dayFault("d000", -4);
            dayFault("r000a", -4);
        });
        edge("below and above the digits", () -> {
            dayFault("d/0", -2);
            dayFault("d:0", -2);
            dayFault("d0/", -3);
            dayFault("d0:", -3);
        });
    }

    private void dayThatIsBarred() {
        says(35, "they are done one by one, till one can't be (it answers below 0): how many were done;");
        edge("the first one can't be", () -> dayIs("ab", "d02d00", "ab", 0, 1));
        edge("the last one can't be", () -> dayIs("ab", "d00d01", "b", 1, 1));
        edge("those behind it are not done", () -> dayIs("ab", "d00d01d00", "b", 1, 1));
        edge("all can be", () -> dayIs("ab", "d00d00", "", 2, 0));
        edge("the RULES stay", () -> {
            LongestTokens x = made("0:a;0:b", "ab");
            Check.day(x, "d00");
            due("count(0)", x.count(0), 2);
        });
        edge("becomes() answers -2", () -> dayIs("ab", "r00ad00", "ab", 0, 1));
        edge("becomes() answers NONE", () -> dayIs("ab", "r02ad00", "ab", 0, 1));
        edge("comes() answers -3", () -> dayIs(LINE_24, "i00ad00", LINE_24, 0, 1));
        edge("comes() answers NONE", () -> dayIs("ab", "i03ad00", "ab", 0, 1));
        edge("comes() behind the last place", () -> dayIs("ab", "i02a", "aba", 1, 0));
        edge("goes() answers NONE", () -> dayIs("", "d00i00a", "", 0, 1));
        edge("one that can be only behind another", () -> dayIs("", "i00ai01bd01", "a", 3, 0));
        says(35, "the ROW: 1 if one could not be, else 0, how many TOKENS there are then.");
        edge("none are left", () -> {
            LongestTokens x = made("0:a", "a");
            tells("day()", x, Check.day(x, "d00d00"), 1, 1, 0);
        });
        edge("one could not be at once", () -> {
            LongestTokens x = made("0:aa", "aa");
            tells("day()", x, Check.day(x, "d02"), 0, 1, 1);
        });
        edge("TOKENS, not signs", () -> {
            LongestTokens x = made("0:a*", "aa");
            tells("day()", x, Check.day(x, "i00ai00b"), 2, 0, 2);
        });
    }

    private static void dayFault(String day, int want) {
        LongestTokens x = made("0:a;0:b", "abc");
        x.modes(-1);
        due("day() of " + day, Check.day(x, day), want);
        Check.row("day() of " + day, x, 0);
        lineIs(x, "abc");
        due("count(3)", x.count(3), 2);
        due("count(5)", x.count(5), 0);
    }

    private void dayFaults() {
        says(35, "-1 - p: the sign at p can't stand there (its end, if it ends too early); nothing is done then.");
        edge("the first sign", () -> dayFault("a", -1));
        edge("ahead of and behind the signs", () -> {
            dayFault("r00`", -4);
            dayFault("i00i", -4);
        });
        edge("any sign", () -> dayFault("r00.", -4));
        edge("d with a sign", () -> dayFault("d00a", -4));
        edge("the lowest and the highest byte", () -> {
            dayFault("d0\u0000", -3);
            dayFault("\u00e4", -1);
            dayFault("r00\u00e1", -4);
        });
        edge("the last of 80", () -> dayFault("i00a".repeat(19) + "i00x", -80));
        edge("CHANGES ahead of it are not done", () -> dayFault("d00d00x", -7));
        edge("behind one that can't be", () -> dayFault("d99x", -4));
        edge("it ends behind a kind", () -> {
            dayFault("r", -2);
            dayFault("i", -2);
            dayFault("d", -2);
        });
        edge("it ends behind one digit", () -> {
            dayFault("r0", -3);
            dayFault("d0", -3);
        });
        edge("it ends ahead of the sign", () -> {
            dayFault("r00", -4);
            dayFault("i00", -4);
        });
        edge("it ends behind a CHANGE and a kind", () -> dayFault("d00d", -5));
        edge("it ends behind 80", () -> dayFault("d00".repeat(26) + "d0", -81));
    }

    private void undo() {
        says(36, "The latest rules(), line(), becomes(), comes(), goes(), day()");
        edge("rules()", () -> undone("0:a", "ab", x -> Check.rules(x, "0:c;0:d")));
        edge("rules() of none", () -> undone("0:a", "ab", x -> x.rules()));
        edge("line()", () -> undone("0:a", "ab", x -> Check.line(x, "hgf")));
        edge("line() of none", () -> undone("0:a", "ab", x -> x.line()));
        edge("becomes()", () -> undone("0:a", "ab", x -> x.becomes(0, 7)));
        edge("comes()", () -> undone("0:a", "ab", x -> x.comes(2, 7)));
        edge("goes()", () -> undone("0:a", "ab", x -> x.goes(0)));
        edge("day()", () -> undone("0:a", "ab", x -> Check.day(x, "d00i00h")));
        edge("rules() and line() that tell what there is", () -> {
            undone("0:a", "ab", x -> Check.rules(x, "0:a"));
            undone("0:a", "ab", x -> Check.line(x, "ab"));
        });
        edge("no other call", () -> {
            LongestTokens x = made("0:a", "ab");
            x.sheet(0, 2, 0, 1);
            x.keep(0);
            x.mends(0);
            x.years(1, 20);
            x.undo();
            due("count(3)", x.count(3), 1);
        });
        says(36, "(of 10 that are kept, the latest ones;");
        edge("ten", () -> manyUndone(10, 10));
        edge("nine", () -> manyUndone(9, 9));
        edge("eleven", () -> manyUndone(11, 10));
        edge("thirty", () -> manyUndone(30, 10));
        edge("the latest ten of up to 60", () -> {
            for (int calls = 1; calls <= 60; calls++) {
                undoneInTurn(calls);
            }
        });
        edge("ten, some undone, others done", () -> {
            LongestTokens x = made("", "a");
            for (int i = 0; i < 12; i++) {
                x.becomes(0, i % 2 == 0 ? 1 : 0);
            }
            due("undo()", x.undo(), 9);
            due("undo()", x.undo(), 8);
            for (int i = 0; i < 5; i++) {
                x.comes(0, 2);
            }
            due("count(3)", x.count(3), 10);
            for (int left = 9; left >= 5; left--) {
                due("undo()", x.undo(), left);
            }
            lineIs(x, "a");
            due("undo()", x.undo(), 4);
            lineIs(x, "b");
        });
    }

    /** One call that can be undone, done and undone. */
    private static void undone(String rules, String line, Call call) {
        LongestTokens x = made(rules, line);
        String state = stateOf(x);
        due("the call", call.answer(x) >= 0, true);
        due("count(3)", x.count(3), 3);
        due("undo()", x.undo(), 2);
        due("the state", stateOf(x), state);
    }

    /** So many calls, each of which puts a sign to the LINE, and so many that can be undone. */
    private static void manyUndone(int calls, int canBe) {
        LongestTokens x = new LongestTokens();
        for (int i = 0; i < calls; i++) {
            if (x.count(1) == 24) {
                x.sheet(0, 0, 0, 0);
            }
            x.comes(0, i % 8);
        }
        due("count(3)", x.count(3), canBe);
        for (int left = canBe - 1; left >= 0; left--) {
            due("undo()", x.undo(), left);
        }
        due("one more", x.undo(), -1);
        if (calls < 24) {
            due("signs that are left", x.count(1), calls - canBe);
        }
    }

    /** The LINES ahead of the latest ten of so many calls come back, the latest first. */
    private static void undoneInTurn(int calls) {
        LongestTokens x = made("", A_24);
        String[] lines = new String[calls + 1];
        lines[0] = A_24;
        for (int i = 0; i < calls; i++) {
            due("becomes()", x.becomes(i % 24, 1 + i / 24), 24);
            lines[i + 1] = Check.lineOf(x);
        }
        for (int i = calls - 1; i >= 0 && i >= calls - 10; i--) {
            x.undo();
            lineIs(x, lines[i]);
        }
    }

    private void undoneOnes() {
        says(36, "such as were done; day() of which one CHANGE was done, as one)");
        edge("refused ones", () -> {
            LongestTokens x = made("0:a", "ab");
            Check.rules(x, "x");
            Check.rules(x, "0:aaaaaaaaaaa");
            Check.line(x, "x");
            x.becomes(0, 0);
            x.becomes(9, 0);
            x.comes(9, 0);
            x.goes(9);
            Check.day(x, "x");
            due("count(3)", x.count(3), 2);
        });
        edge("comes() that answers -3", () -> {
            LongestTokens x = made("", LINE_24);
            x.comes(0, 0);
            due("count(3)", x.count(3), 2);
        });
        edge("day() of which none was done", () -> {
            LongestTokens x = made("0:a", "ab");
            Check.day(x, "d09");
            Check.day(x, "");
            due("count(3)", x.count(3), 2);
        });
        edge("day() of which one was done, one not", () -> {
            LongestTokens x = made("0:a", "ab");
            due("day()", Check.day(x, "d00d09"), 1);
            due("count(3)", x.count(3), 3);
            due("undo()", x.undo(), 2);
            lineIs(x, "ab");
        });
        edge("day() of which many were done", () -> {
            LongestTokens x = made("0:a", "ab");
            due("day()", Check.day(x, "i00h".repeat(20)), 20);
            due("count(3)", x.count(3), 3);
            due("undo()", x.undo(), 2);
            lineIs(x, "ab");
        });
        says(36, "is undone (RULES and LINE are as ahead of it): how many are left that can be.");
        edge("to a new object", () -> {
            LongestTokens x = made("0:a", "ab");
            due("undo()", x.undo(), 1);
            due("undo()", x.undo(), 0);
            due("the state", stateOf(x), stateOf(new LongestTokens()));
        });
        edge("the RULES alone", () -> {
            LongestTokens x = made("", "ab");
            Check.rules(x, "0:a");
            x.undo();
            due("count(0)", x.count(0), 0);
            lineIs(x, "ab");
        });
        edge("the LINE ahead of a sheet", () -> {
            LongestTokens x = made("0:a", "ab");
            x.sheet(0, 5, 0, 1);
            x.goes(0);
            x.undo();
            lineIs(x, "abcde");
            x.undo();
            lineIs(x, "");
        });
        edge("RULES of 80 signs", () -> {
            LongestTokens x = made("0:a" + "*".repeat(75) + ">3", "ab");
            Check.rules(x, "0:a" + "*".repeat(75) + ">1");
            due("rule(0, 3)", x.rule(0, 3), 1);
            x.undo();
            due("rule(0, 3)", x.rule(0, 3), 3);
        });
        edge("none is done once more", () -> {
            LongestTokens x = made("0:a", "ab");
            x.undo();
            due("count(3)", x.count(3), 1);
        });
    }

    private void forgottenOnes() {
        says(36, "Refused: none.");
        edge("a new object", () -> due("undo()", new LongestTokens().undo(), -1));
        edge("all are undone", () -> {
            LongestTokens x = made("0:a", "ab");
            x.undo();
            x.undo();
            due("undo()", x.undo(), -1);
            due("undo() again", x.undo(), -1);
        });
        says(36, "(again() forgets them, if it is not refused.)");
        edge("again()", () -> {
            LongestTokens x = made("0:a", "ab");
            x.keep(0);
            due("again()", x.again(0), true);
            due("count(3)", x.count(3), 0);
            due("undo()", x.undo(), -1);
        });
        edge("again() that is refused", () -> {
            LongestTokens x = made("0:a", "ab");
            due("again(0)", x.again(0), false);
            due("again(2)", x.again(2), false);
            due("again(-1)", x.again(-1), false);
            due("count(3)", x.count(3), 2);
            due("undo()", x.undo(), 1);
        });
        edge("keep()", () -> {
            LongestTokens x = made("0:a", "ab");
            x.keep(0);
            due("count(3)", x.count(3), 2);
        });
        edge("what is done behind again()", () -> {
            LongestTokens x = made("0:a", "ab");
            x.keep(0);
            x.again(0);
            x.goes(0);
            due("undo()", x.undo(), 0);
            lineIs(x, "ab");
        });
    }

    /** years() told once more by the CHANGES of the face. */
    private static void yearsAreAsChanges(int seed, int n, String line) {
        LongestTokens x = made("0:ab*;0:c>1;1:b+;1:a<", line);
        LongestTokens y = made("0:ab*;0:c>1;1:b+;1:a<", line);
        long r = seed;
        for (int i = 0; i < n; i++) {
            r = next(r);
            long kind = draw(r, 3);
            r = next(r);
            int q = draw(r, 24);
            if (kind == 2) {
                y.goes(q);
            } else {
                r = next(r);
                int s = draw(r, 8);
                if (kind == 0) {
                    y.becomes(q, s);
                } else {
                    y.comes(q, s);
                }
            }
        }
        String state = stateOf(x);
        y.read();
        tells("years(" + seed + ", " + n + ")", x, x.years(seed, n), y.count(2), y.by(-1), y.count(1), memory(y));
        due("it is forgotten", stateOf(x), state);
    }

    private static long memory(LongestTokens y) {
        y.read();
        return y.row(0);
    }

    private static long next(long r) {
        return (int) (r * 1103515245L + 12345L);
    }

    private static int draw(long r, int n) {
        return (int) ((r & 0xffffffffL) / 65536 % n);
    }

    private void years() {
        says(37, "n times (1 .. 20; it is forgotten): a DRAW of 3: 0: a DRAW of 24, a DRAW of 8: becomes(); 1: the "
            + "same: comes(); 2: a DRAW of 24: goes()");
        edge("once", () -> {
            for (int seed = 0; seed < 40; seed++) {
                yearsAreAsChanges(seed, 1, "abcbaabcab");
            }
        });
        edge("20 times", () -> {
            for (int seed = 0; seed < 40; seed++) {
                yearsAreAsChanges(seed, 20, "abcbaabcab");
            }
        });
        edge("nothing could be undone of it", () -> {
            LongestTokens x = made("0:a", "ab");
            x.years(3, 20);
            due("count(3)", x.count(3), 2);
        });
        says(37, "(what is refused is not done): how many TOKENS there would be then; the ROW: how many STUCK ones, "
            + "how many signs the LINE would have, signs READ WITH MEMORY.");
        edge("of an empty LINE", () -> {
            for (int seed = 0; seed < 40; seed++) {
                yearsAreAsChanges(seed, 3, "");
            }
        });
        edge("of 24 signs", () -> {
            for (int seed = 0; seed < 40; seed++) {
                yearsAreAsChanges(seed, 20, LINE_24);
            }
        });
        edge("of one sign", () -> {
            for (int seed = 0; seed < 40; seed++) {
                yearsAreAsChanges(seed, 5, "a");
            }
        });
        says(37, "NONE: another n.");
        edge("0", () -> refuses("ah", -1, x -> x.years(1, 0)));
        edge("21", () -> refuses("ah", -1, x -> x.years(1, 21)));
        edge("-1", () -> refuses("ah", -1, x -> x.years(1, -1)));
        edge("the least and the most", () -> {
            refuses("ah", -1, x -> x.years(1, MIN));
            refuses("ah", -1, x -> x.years(1, MAX));
        });
        says(37, "A DRAW of n: R = R times 1103515245 + 12345 (as ints; R is seed at first), (R without sign, by "
            + "65536) % n.");
        edge("seeds whose R is below 0", () -> {
            for (int seed = 1; seed < 40; seed++) {
                yearsAreAsChanges(-seed, 7, "abcbaabcab");
            }
        });
        edge("the seeds 0, MIN and MAX", () -> {
            yearsAreAsChanges(0, 20, "abcbaabcab");
            yearsAreAsChanges(MIN, 20, "abcbaabcab");
            yearsAreAsChanges(MAX, 20, "abcbaabcab");
        });
        edge("by hand", () -> {
            // R is 12345, -740551042 and -1492899873: DRAWS of 3, 24 and 8 are 0, 20 and 4.
            LongestTokens x = made("0:e", A_24);
            tells("years(0, 1)", x, x.years(0, 1), 24, 23, 24, 24 + 1);
        });
        edge("by hand, what is refused", () -> {
            LongestTokens x = made("0:c", LINE_24);
            due("at(20)", x.at(20), 4);
            tells("years(0, 1)", x, x.years(0, 1), 24, 21, 24, 24 + 3);
        });
    }

    private void keep() {
        says(38, "RULES and LINE are kept under a number 0 .. 1: true.");
        edge("under 0 and 1", () -> {
            LongestTokens x = made("0:a", "ab");
            due("keep(0)", x.keep(0), true);
            Check.rules(x, "0:a;0:b");
            Check.line(x, "cd");
            due("keep(1)", x.keep(1), true);
            Check.rules(x, "");
            Check.line(x, "");
            x.again(0);
            lineIs(x, "ab");
            due("count(0)", x.count(0), 1);
            x.again(1);
            lineIs(x, "cd");
            due("count(0)", x.count(0), 2);
        });
        edge("nothing", () -> {
            LongestTokens x = new LongestTokens();
            due("keep(0)", x.keep(0), true);
            due("again(0)", x.again(0), true);
            due("like(0)", x.like(0), 0);
        });
        edge("RULES of 80 signs and a LINE of 24", () -> {
            LongestTokens x = made("0:a" + "*".repeat(75) + ">3", LINE_24);
            x.keep(0);
            Check.rules(x, "0:a" + "*".repeat(75) + ">1");
            Check.line(x, A_24);
            x.again(0);
            due("rule(0, 3)", x.rule(0, 3), 3);
            lineIs(x, LINE_24);
        });
        edge("under a number that is taken", () -> {
            LongestTokens x = made("0:a", "ab");
            x.keep(0);
            Check.line(x, "cd");
            due("keep(0)", x.keep(0), true);
            x.goes(0);
            x.again(0);
            lineIs(x, "cd");
        });
        edge("what is changed behind it stays as it was there", () -> {
            LongestTokens x = made("0:a", "ab");
            x.keep(0);
            x.becomes(0, 7);
            x.again(0);
            lineIs(x, "ab");
            x.becomes(0, 7);
            x.again(0);
            lineIs(x, "ab");
        });
        says(38, "Refused: others.");
        edge("-1", () -> due("keep(-1)", made("0:a", "ab").keep(-1), false));
        edge("2", () -> due("keep(2)", made("0:a", "ab").keep(2), false));
        edge("the least and the most", () -> {
            due("keep(MIN)", made("0:a", "ab").keep(MIN), false);
            due("keep(MAX)", made("0:a", "ab").keep(MAX), false);
        });
    }

    private void again() {
        says(39, "They are as they were kept under a number.");
        edge("under 0 and 1", () -> {
            LongestTokens x = made("0:a", "ab");
            x.keep(0);
            x.goes(0);
            x.keep(1);
            due("again(0)", x.again(0), true);
            lineIs(x, "ab");
            due("cut()", x.cut(), 2);
            due("again(1)", x.again(1), true);
            lineIs(x, "b");
            due("cut()", x.cut(), 1);
        });
        edge("twice", () -> {
            LongestTokens x = made("0:a", "ab");
            x.keep(0);
            due("again(0)", x.again(0), true);
            due("again(0) once more", x.again(0), true);
            lineIs(x, "ab");
        });
        says(39, "Refused: nothing kept.");
        edge("nothing under 0", () -> {
            LongestTokens x = made("0:a", "ab");
            x.keep(1);
            due("again(0)", x.again(0), false);
        });
        edge("nothing under 1", () -> {
            LongestTokens x = made("0:a", "ab");
            x.keep(0);
            due("again(1)", x.again(1), false);
        });
        edge("-1 and 2", () -> {
            LongestTokens x = made("0:a", "ab");
            x.keep(0);
            x.keep(1);
            due("again(-1)", x.again(-1), false);
            due("again(2)", x.again(2), false);
        });
        edge("the least and the most", () -> {
            due("again(MIN)", made("0:a", "ab").again(MIN), false);
            due("again(MAX)", made("0:a", "ab").again(MAX), false);
        });
    }

    private void count() {
        says(40, "What 0: RULES, 1: signs of the LINE, 2: TOKENS, 3: what can be undone, 4: numbers of the ROW, 5: "
            + "signs of THE TEXT, 6: the most MODES on one another at any time of CUTTING, 7: LETTERS of all RULES, "
            + "8: MODES that have RULES (bits).");
        edge("of a new object", () -> {
            long[] want = {0, 0, 0, 0, 0, 0, 1, 0, 0};
            LongestTokens x = new LongestTokens();
            for (int what = 0; what < want.length; what++) {
                due("count(" + what + ")", x.count(what), want[what]);
            }
        });
        edge("the most of 0, 1, 2, 5, 7 and 8", () -> {
            LongestTokens x = made("0:.....;1:.....;2:.....;3:.....;0:.....;1:.....;2:.....;3:.....", LINE_24);
            Check.say(x, "a".repeat(80));
            due("count(0)", x.count(0), 8);
            due("count(1)", x.count(1), 24);
            due("count(5)", x.count(5), 80);
            due("count(7)", x.count(7), 40);
            due("count(8)", x.count(8), 15);
            due("count(2)", made("", LINE_24).count(2), 24);
        });
        edge("the most of 4", () -> {
            LongestTokens x = made("", LINE_24);
            x.stuck();
            due("count(4)", x.count(4), 48);
        });
        edge("the first and the last MODE", () -> {
            due("count(8)", made("0:a", "").count(8), 1);
            due("count(8)", made("3:a", "").count(8), 8);
        });
        edge("MODES that were more than there are at last", () -> {
            due("count(6)", made("0:a>1;1:a<", "aa").count(6), 2);
        });
        edge("MODES of the last ACT", () -> due("count(6)", made("0:a>1", "a").count(6), 2));
        edge("one MODE alone", () -> due("count(6)", made("0:a<;0:b=2;2:c=0", "abca").count(6), 1));
        edge("MODES five times and a sixth", () -> due("count(6)", made("0:a>0", "aaaaaa").count(6), 5));
        edge("MODES of the LINE that is cut", () -> {
            LongestTokens x = made("0:a>1", "a");
            x.goes(0);
            due("count(6)", x.count(6), 1);
        });
        says(40, "NONE for another what.");
        edge("-1", () -> due("count(-1)", made("0:a", "ab").count(-1), -1));
        edge("9", () -> due("count(9)", made("0:a", "ab").count(9), -1));
        edge("the least and the most", () -> {
            due("count(MIN)", made("0:a", "ab").count(MIN), -1);
            due("count(MAX)", made("0:a", "ab").count(MAX), -1);
        });
    }

    private void row() {
        says(41, "Number i of the ROW.");
        edge("the first and the last", () -> {
            LongestTokens x = made("", LINE_24);
            x.cut();
            due("row(0)", x.row(0), 1);
            due("row(23)", x.row(23), 24);
        });
        edge("one below 0", () -> {
            LongestTokens x = made("0:ab", "a");
            x.stuck();
            due("row(1)", x.row(1), -1);
        });
        says(41, "NoSuchElementException: none such.");
        edge("-1", () -> {
            LongestTokens x = made("", "ab");
            x.cut();
            noSuch("row(-1)", () -> x.row(-1));
        });
        edge("behind the last", () -> {
            LongestTokens x = made("", "ab");
            x.cut();
            noSuch("row(2)", () -> x.row(2));
        });
        edge("behind the last of a shorter one", () -> {
            LongestTokens x = made("", "abc");
            x.cut();
            x.modes(-1);
            noSuch("row(1)", () -> x.row(1));
        });
        edge("of an empty one", () -> {
            LongestTokens x = made("0:a", "aa");
            x.cut();
            x.stuck();
            noSuch("row(0)", () -> x.row(0));
        });
        edge("of a new object", () -> noSuch("row(0)", () -> new LongestTokens().row(0)));
        edge("the least and the most", () -> {
            LongestTokens x = made("", "ab");
            x.cut();
            noSuch("row(MIN)", () -> x.row(MIN));
            noSuch("row(MAX)", () -> x.row(MAX));
        });
    }
}
