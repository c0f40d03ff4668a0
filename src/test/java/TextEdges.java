/** Boundaries that promises 1 to 8 name: a new object, texts and sheets. */
final class TextEdges extends Edges {
    @Override
    void list() {
        newObject();
        sign();
        end();
        rules();
        rulesTooEarly();
        tooManyLetters();
        line();
        rule();
        at();
        sheet();
        refusedSheets();
    }

    private void newObject() {
        says(1, "No RULES, an empty LINE.");
        edge("no RULES", () -> {
            LongestTokens x = new LongestTokens();
            due("count(0)", x.count(0), 0);
            due("count(7)", x.count(7), 0);
            due("count(8)", x.count(8), 0);
            noSuch("rule(0, 0)", () -> x.rule(0, 0));
        });
        edge("an empty LINE", () -> {
            LongestTokens x = new LongestTokens();
            due("count(1)", x.count(1), 0);
            due("count(2)", x.count(2), 0);
            noSuch("at(0)", () -> x.at(0));
        });
        edge("nothing else", () -> {
            LongestTokens x = new LongestTokens();
            due("THE TEXT", x.count(5), 0);
            due("the ROW", x.count(4), 0);
            due("what can be undone", x.count(3), 0);
            due("what is kept under 0", x.again(0), false);
            due("what is kept under 1", x.again(1), false);
        });
        edge("of a second object", () -> {
            made("0:a", "a").keep(0);
            LongestTokens x = new LongestTokens();
            due("count(0)", x.count(0), 0);
            due("count(1)", x.count(1), 0);
            due("again(0)", x.again(0), false);
        });
    }

    private void sign() {
        says(2, "Four signs come behind THE TEXT, of v the highest byte first: how many it has.");
        edge("an empty THE TEXT", () -> {
            LongestTokens x = new LongestTokens();
            due("sign()", x.sign('a' << 24 | 'b' << 16 | 'c' << 8 | 'd'), 4);
            due("line()", x.line(), 4);
            lineIs(x, "abcd");
        });
        edge("behind others", () -> {
            LongestTokens x = new LongestTokens();
            Check.say(x, "abc");
            due("sign()", x.sign('d' << 24 | 'e' << 16 | 'f' << 8 | 'g'), 7);
            due("line()", x.line(), 7);
            lineIs(x, "abcdefg");
        });
        edge("v is below 0", () -> {
            LongestTokens x = new LongestTokens();
            due("sign(-1)", x.sign(-1), 4);
            due("sign(MIN)", x.sign(MIN), 8);
            due("line()", x.line(), -1);
            x.sign('a' << 24 | 'b' << 16 | 'c' << 8 | 0x80);
            due("line() of a highest bit", x.line(), -4);
        });
        edge("v is 0", () -> {
            LongestTokens x = new LongestTokens();
            due("sign(0)", x.sign(0), 4);
            due("line()", x.line(), -1);
        });
        says(2, "Refused: there would be more than 80.");
        edge("80", () -> {
            LongestTokens x = full();
            due("count(5)", x.count(5), 80);
        });
        edge("84", () -> {
            LongestTokens x = full();
            due("sign()", x.sign('a'), -1);
            due("count(5)", x.count(5), 80);
            due("sign() again", x.sign('a'), -1);
        });
        edge("81", () -> {
            LongestTokens x = full();
            due("end(77)", x.end(77), true);
            due("sign()", x.sign('a'), -1);
            due("count(5)", x.count(5), 77);
        });
        edge("80 once more", () -> {
            LongestTokens x = full();
            due("end(76)", x.end(76), true);
            due("sign()", x.sign('a'), 80);
        });
        edge("the signs that were there are left", () -> {
            LongestTokens x = new LongestTokens();
            Check.say(x, LINE_24);
            for (int i = 0; i < 14; i++) {
                x.sign(0);
            }
            due("sign() beyond 80", x.sign(0), -1);
            due("end(24)", x.end(24), true);
            due("line()", x.line(), 24);
            lineIs(x, LINE_24);
        });
    }

    private static LongestTokens full() {
        LongestTokens x = new LongestTokens();
        for (int length = 4; length <= 80; length += 4) {
            due("sign()", x.sign('a'), length);
        }
        return x;
    }

    private static LongestTokens four() {
        LongestTokens x = new LongestTokens();
        Check.say(x, "abcd");
        return x;
    }

    private void end() {
        says(3, "THE TEXT has its first n signs alone: true;");
        edge("all of them", () -> {
            LongestTokens x = four();
            due("end(4)", x.end(4), true);
            due("count(5)", x.count(5), 4);
        });
        edge("none of them", () -> {
            LongestTokens x = four();
            due("end(0)", x.end(0), true);
            due("count(5)", x.count(5), 0);
        });
        edge("none of none", () -> due("end(0)", new LongestTokens().end(0), true));
        edge("all of 80", () -> due("end(80)", full().end(80), true));
        edge("the first ones are left", () -> {
            LongestTokens x = four();
            x.end(2);
            x.line();
            lineIs(x, "ab");
        });
        says(3, "false if it has not so many,");
        edge("one more", () -> {
            LongestTokens x = four();
            due("end(5)", x.end(5), false);
            due("count(5)", x.count(5), 4);
        });
        edge("one of none", () -> due("end(1)", new LongestTokens().end(1), false));
        edge("81 of 80", () -> due("end(81)", full().end(81), false));
        edge("as many as were there", () -> {
            LongestTokens x = four();
            x.end(3);
            due("end(4)", x.end(4), false);
        });
        edge("the most", () -> due("end(MAX)", four().end(MAX), false));
        says(3, "or n is below 0.");
        edge("-1", () -> {
            LongestTokens x = four();
            due("end(-1)", x.end(-1), false);
            due("count(5)", x.count(5), 4);
        });
        edge("the least", () -> due("end(MIN)", four().end(MIN), false));
    }

    private void rules() {
        says(4, "THE TEXT is the RULES (an empty one: none): how many.");
        edge("an empty one", () -> {
            LongestTokens x = made("0:a;0:b", "a");
            due("rules()", x.rules(), 0);
            due("count(0)", x.count(0), 0);
            due("stuck()", x.stuck(), 1);
        });
        edge("one", () -> rulesTell("2:h", 1));
        edge("of 80 signs", () -> {
            LongestTokens x = made("0:a" + "*".repeat(75) + ">3", "a");
            tells("modes(0)", x, x.modes(0), 2, 0, 3);
        });
        edge("ten LETTERS in each MODE, told once more", () -> {
            LongestTokens x = made("0:abcdefghab;1:bbbbbbbbbb;2:cccccccccc;3:dddddddddd", "abcdefghab");
            for (String text : new String[] {"3:..........;2:..........;1:..........;0:abcdefghab",
                "0:abcdefghab;1:bbbbbbbbbb;2:cccccccccc;3:dddddddddd"}) {
                due("rules()", Check.rules(x, text), 4);
                due("count(7)", x.count(7), 40);
                due("cut()", x.cut(), 1);
            }
            Check.rules(x, "0:b;1:a");
            due("matches(0, 1)", x.matches(0, 1), 2);
            due("matches(1, 2)", x.matches(1, 2), 1);
            due("states(0)", x.states(0), 1);
        });
        edge("no LETTER of the RULES that were is left", () -> {
            LongestTokens x = made("0:a|b|c;1:.+", "bc");
            Check.rules(x, "0:abc");
            due("stands(0, 0, 1)", x.stands(0, 0, 1), 0);
            due("states(0)", x.states(0), 3);
            due("states(1)", x.states(1), 0);
        });
        edge("the LINE is cut by them", () -> {
            LongestTokens x = made("0:a", "aa");
            Check.rules(x, "0:aa");
            due("cut()", x.cut(), 1);
        });
        says(4, "-1 - p: the sign at p can't stand there");
        edge("the first sign", () -> rulesTell("x", -1));
        edge("the second sign", () -> rulesTell("0x", -2));
        edge("the last of 80", () -> rulesTell("0:a" + "*".repeat(76) + "x", -80));
        edge("the lowest and the highest byte", () -> {
            rulesTell("0:a\u0000", -4);
            rulesTell("0:a\u00ff", -4);
            rulesTell("\u00b0:a", -1);
            rulesTell("0:\u00e1", -3);
        });
        edge("the first of two", () -> rulesTell("0:x;x", -3));
        edge("an ACT in ( )", () -> {
            rulesTell("0:(a<)", -5);
            rulesTell("0:(a>1)", -5);
            rulesTell("0:(a=1)", -5);
        });
        edge("a ; in ( )", () -> rulesTell("0:(a;0:b)", -5));
        edge("a sign behind an ACT", () -> {
            rulesTell("0:a<b", -5);
            rulesTell("0:a>1b", -6);
            rulesTell("0:a=1*", -6);
        });
        edge("the RULES stay", () -> {
            LongestTokens x = made("0:a;0:b", "a");
            due("rules()", Check.rules(x, "0:a;x"), -5);
            due("count(0)", x.count(0), 2);
            due("count(3)", x.count(3), 2);
        });
        says(4, "(the ; ahead of a ninth RULE;");
        edge("a ninth", () -> rulesTell("0:a;0:a;0:a;0:a;0:a;0:a;0:a;0:a;0:a", -32));
        edge("the text ends behind it", () -> rulesTell("0:a;0:a;0:a;0:a;0:a;0:a;0:a;0:a;", -32));
        edge("eight", () -> rulesTell("0:a;0:a;0:a;0:a;0:a;0:a;0:a;0:a", 8));
        edge("eight behind nine", () -> {
            LongestTokens x = new LongestTokens();
            due("nine", Check.rules(x, "0:a;0:a;0:a;0:a;0:a;0:a;0:a;0:a;0:a"), -32);
            due("eight", Check.rules(x, "0:a;0:a;0:a;0:a;0:a;0:a;0:a;0:a"), 8);
            due("eight again", Check.rules(x, "0:a;0:a;0:a;0:a;0:a;0:a;0:a;0:a"), 8);
        });
        says(4, "a ( by which more than 6 would be open;");
        edge("six behind a text that left some open", () -> {
            LongestTokens x = new LongestTokens();
            due("left open", Check.rules(x, "0:((((((a"), -10);
            due("six", Check.rules(x, "0:((((((a))))))"), 1);
            due("none", Check.rules(x, "0:a<"), 1);
        });
        edge("six", () -> rulesTell("0:((((((a))))))", 1));
        edge("seven", () -> rulesTell("0:(((((((a)))))))", -9));
        edge("six, twice", () -> rulesTell("0:((((((a))))))((((((b))))))", 1));
        edge("six, one closed, one more", () -> rulesTell("0:((((((a)(b))))))", 1));
        edge("six, one closed, two more", () -> rulesTell("0:((((((a)((b)))))))", -12));
        edge("six in each of two RULES", () -> rulesTell("0:((((((a))))));0:((((((b))))))", 2));
    }

    private void rulesTooEarly() {
        says(4, "its end, if it ends too early);");
        edge("behind a digit", () -> rulesTell("0", -2));
        edge("behind a :", () -> rulesTell("0:", -3));
        edge("behind a |", () -> rulesTell("0:a|", -5));
        edge("behind a (", () -> rulesTell("0:(", -4));
        edge("in ( )", () -> rulesTell("0:(a", -5));
        edge("behind a > or =", () -> {
            rulesTell("0:a>", -5);
            rulesTell("0:a=", -5);
        });
        edge("behind a ;", () -> rulesTell("0:a;", -5));
        edge("behind 80 signs", () -> rulesTell("0:a" + "*".repeat(76) + "|", -81));
        edge("not behind a PART, a * or a <", () -> {
            rulesTell("0:a", 1);
            rulesTell("0:(a)", 1);
            rulesTell("0:a*", 1);
            rulesTell("0:a<", 1);
            rulesTell("0:a>1", 1);
        });
    }

    private void tooManyLetters() {
        says(4, "-100 - m: the RULES of MODE m (the first such) have more than 10 LETTERS (asked behind the signs).");
        edge("ten", () -> rulesTell("0:aaaaaaaaaa", 1));
        edge("eleven in MODE 0", () -> rulesTell("0:aaaaaaaaaaa", -100));
        edge("eleven in MODE 3", () -> rulesTell("3:aaaaaaaaaaa", -103));
        edge("eleven in two MODES together", () -> rulesTell("0:aaaaaa;1:aaaaa", 2));
        edge("the first of two such", () -> rulesTell("1:aaaaaaaaaaa;2:aaaaaaaaaaa", -101));
        edge("the first of two such, told last", () -> rulesTell("2:aaaaaaaaaaa;1:aaaaaaaaaaa", -101));
        edge("a wrong sign behind them", () -> rulesTell("0:aaaaaaaaaaax", -14));
        edge("an end too early behind them", () -> rulesTell("0:aaaaaaaaaaa;", -15));
        edge("a ninth RULE behind them", () -> rulesTell("0:aaaaaaaaaaa;0:a;0:a;0:a;0:a;0:a;0:a;0:a;0:a", -42));
        edge("the RULES stay", () -> {
            LongestTokens x = made("0:a;0:b", "a");
            due("rules()", Check.rules(x, "0:aaaaaaaaaaa"), -100);
            due("count(0)", x.count(0), 2);
            due("count(3)", x.count(3), 2);
            due("count(5)", x.count(5), 0);
        });
    }

    private void line() {
        says(5, "THE TEXT is the LINE: how many signs.");
        edge("an empty one", () -> {
            LongestTokens x = made("0:a", "abc");
            due("line()", x.line(), 0);
            due("count(1)", x.count(1), 0);
            due("count(2)", x.count(2), 0);
        });
        edge("one", () -> due("line()", Check.line(new LongestTokens(), "h"), 1));
        edge("24", () -> {
            LongestTokens x = new LongestTokens();
            due("line()", Check.line(x, LINE_24), 24);
            lineIs(x, LINE_24);
        });
        edge("a shorter one", () -> {
            LongestTokens x = made("0:a", LINE_24);
            due("line()", Check.line(x, "ha"), 2);
            lineIs(x, "ha");
        });
        says(5, "-1 - p: the sign at p can't stand there (a twenty-fifth, too).");
        edge("the first sign", () -> due("line()", Check.line(new LongestTokens(), "i"), -1));
        edge("the 24th sign", () -> due("line()", Check.line(new LongestTokens(), LINE_24.substring(1) + "x"), -24));
        edge("a 25th", () -> due("line()", Check.line(new LongestTokens(), A_24 + "a"), -25));
        edge("a 25th that could stand nowhere", () -> due("line()", Check.line(new LongestTokens(), A_24 + "x"), -25));
        edge("80", () -> due("line()", Check.line(new LongestTokens(), A_24 + A_24 + A_24 + "aaaaaaaa"), -25));
        edge("a wrong one ahead of a 25th", () -> due("line()", Check.line(new LongestTokens(), "." + A_24), -1));
        edge("signs of RULES alone", () -> due("line()", Check.line(new LongestTokens(), "a."), -2));
        edge("the lowest and the highest byte", () -> {
            due("line()", Check.line(new LongestTokens(), "a\u0000"), -2);
            due("line()", Check.line(new LongestTokens(), "a\u00ff"), -2);
            due("line()", Check.line(new LongestTokens(), "A"), -1);
        });
        edge("the LINE stays", () -> {
            LongestTokens x = made("0:a", "abc");
            due("line()", Check.line(x, "ai"), -2);
            lineIs(x, "abc");
            due("count(3)", x.count(3), 2);
        });
    }

    private void rule() {
        says(6, "Of RULE k, what 0: its MODE, 1: how many LETTERS,");
        edge("the first and the last MODE", () -> {
            LongestTokens x = made("0:a;3:a", "");
            due("rule(0, 0)", x.rule(0, 0), 0);
            due("rule(1, 0)", x.rule(1, 0), 3);
        });
        edge("one LETTER and ten", () -> {
            LongestTokens x = made("0:.;1:((a|b).)*cdefghh", "");
            due("rule(0, 1)", x.rule(0, 1), 1);
            due("rule(1, 1)", x.rule(1, 1), 10);
        });
        says(6, "2: its ACT: 0 none, 1 <, 2 >, 3 =, 3: the digit of its ACT (NONE without),");
        edge("none", () -> actIs("0:a", 0, -1));
        edge("<, an ACT without a digit", () -> actIs("0:a<", 1, -1));
        edge("> with the lowest and the highest digit", () -> {
            actIs("0:a>0", 2, 0);
            actIs("0:a>3", 2, 3);
        });
        edge("= with the lowest and the highest digit", () -> {
            actIs("0:a=0", 3, 0);
            actIs("0:a=3", 3, 3);
        });
        edge("none behind a RULE with one", () -> {
            LongestTokens x = made("0:a>2;0:b", "");
            due("rule(1, 2)", x.rule(1, 2), 0);
            due("rule(1, 3)", x.rule(1, 3), -1);
        });
        edge("none where one was", () -> {
            LongestTokens x = made("0:a>2", "");
            Check.rules(x, "0:a");
            due("rule(0, 2)", x.rule(0, 2), 0);
            due("rule(0, 3)", x.rule(0, 3), -1);
        });
        says(6, "4: 1 if it MATCHES the row without signs, else 0.");
        edge("a LETTER", () -> emptyIs("0:a", 0));
        edge("* + ?", () -> {
            emptyIs("0:a*", 1);
            emptyIs("0:a+", 0);
            emptyIs("0:a?", 1);
            emptyIs("0:a?+", 1);
        });
        edge("all PARTS of a CHAIN do", () -> emptyIs("0:a?b*", 1));
        edge("all PARTS but one", () -> {
            emptyIs("0:a?b*c", 0);
            emptyIs("0:ca?b*", 0);
        });
        edge("one CHAIN does", () -> {
            emptyIs("0:a|b?", 1);
            emptyIs("0:a?|b", 1);
            emptyIs("0:(a|b*)+", 1);
        });
        edge("no CHAIN does", () -> emptyIs("0:a|(b|c)+", 0));
        says(6, "NoSuchElementException: none such, another what.");
        edge("below the first RULE", () -> noSuch("rule(-1, 0)", () -> made("0:a;0:b", "").rule(-1, 0)));
        edge("behind the last RULE", () -> noSuch("rule(2, 0)", () -> made("0:a;0:b", "").rule(2, 0)));
        edge("of eight", () -> {
            LongestTokens x = made("0:a;0:a;0:a;0:a;0:a;0:a;0:a;3:a", "");
            due("rule(7, 0)", x.rule(7, 0), 3);
            noSuch("rule(8, 0)", () -> x.rule(8, 0));
        });
        edge("of none", () -> noSuch("rule(0, 0)", () -> new LongestTokens().rule(0, 0)));
        edge("the least and the most", () -> {
            noSuch("rule(MIN, 0)", () -> made("0:a", "").rule(MIN, 0));
            noSuch("rule(MAX, 0)", () -> made("0:a", "").rule(MAX, 0));
        });
        edge("what -1", () -> noSuch("rule(0, -1)", () -> made("0:a", "").rule(0, -1)));
        edge("what 5", () -> noSuch("rule(0, 5)", () -> made("0:a", "").rule(0, 5)));
        edge("what of none such", () -> noSuch("rule(1, 5)", () -> made("0:a", "").rule(1, 5)));
    }

    private static void actIs(String rule, long act, long digit) {
        LongestTokens x = made(rule, "");
        due(rule + ", what 2", x.rule(0, 2), act);
        due(rule + ", what 3", x.rule(0, 3), digit);
    }

    private static void emptyIs(String rule, long want) {
        due(rule + ", what 4", made(rule, "").rule(0, 4), want);
    }

    private void at() {
        says(7, "The sign (0: a, ..) at a place of the LINE.");
        edge("the first and the last sign", () -> {
            due("a", made("", "a").at(0), 0);
            due("h", made("", "h").at(0), 7);
        });
        edge("the first and the last place", () -> {
            LongestTokens x = made("", "b" + LINE_24.substring(2) + "g");
            due("at(0)", x.at(0), 1);
            due("at(23)", x.at(23), 6);
        });
        says(7, "NoSuchElementException: none such.");
        edge("below the first place", () -> noSuch("at(-1)", () -> made("", "ab").at(-1)));
        edge("behind the last place", () -> noSuch("at(2)", () -> made("", "ab").at(2)));
        edge("behind 24", () -> noSuch("at(24)", () -> made("", LINE_24).at(24)));
        edge("of an empty LINE", () -> noSuch("at(0)", () -> new LongestTokens().at(0)));
        edge("where one was", () -> {
            LongestTokens x = made("", "ab");
            x.goes(0);
            noSuch("at(1)", () -> x.at(1));
        });
        edge("the least and the most", () -> {
            noSuch("at(MIN)", () -> made("", "ab").at(MIN));
            noSuch("at(MAX)", () -> made("", "ab").at(MAX));
        });
    }

    private static void sheetIs(int kind, int n, int f, int step, String want) {
        LongestTokens x = made("0:a", "bcd");
        due("sheet(" + kind + ", " + n + ", " + f + ", " + step + ")", x.sheet(kind, n, f, step), n);
        lineIs(x, want);
        due("TOKENS", x.cut(), n);
    }

    private void sheet() {
        says(8, "bytes (kind 0), shorts (1), ints (2) of n entries f, f + step, .. (as ints; of bytes, shorts the "
            + "lowest bits, with their sign),");
        edge("the kinds", () -> {
            sheetIs(0, 3, 1, 2, "bdf");
            sheetIs(1, 3, 1, 2, "bdf");
            sheetIs(2, 3, 1, 2, "bdf");
        });
        edge("bytes beyond 127 and -128", () -> {
            sheetIs(0, 3, 127, 1, "hab");
            sheetIs(0, 3, -128, -1, "ahg");
        });
        edge("shorts beyond 32767 and -32768", () -> {
            sheetIs(1, 3, 32767, 1, "hab");
            sheetIs(1, 3, -32768, -1, "ahg");
        });
        edge("ints beyond MAX and MIN", () -> {
            sheetIs(2, 3, MAX, 1, "hab");
            sheetIs(2, 3, MIN, -1, "ahg");
            sheetIs(2, 4, MAX, MAX, "hgfe");
        });
        edge("step 0", () -> sheetIs(2, 3, 5, 0, "fff"));
        says(8, "each the sign that it is modulo 8 (0 at least),");
        edge("7, 8 and 9", () -> sheetIs(2, 3, 7, 1, "hab"));
        edge("0, -1 and -2", () -> {
            sheetIs(0, 3, 0, -1, "ahg");
            sheetIs(1, 3, 0, -1, "ahg");
            sheetIs(2, 3, 0, -1, "ahg");
        });
        edge("-8 and -9", () -> sheetIs(2, 2, -8, -1, "ah"));
        says(8, "or a missing one (3: an empty LINE): how many signs.");
        edge("a missing one", () -> {
            LongestTokens x = made("0:a", "abc");
            due("sheet(3, 2, 1, 1)", x.sheet(3, 2, 1, 1), -3);
            due("count(1)", x.count(1), 0);
            due("count(2)", x.count(2), 0);
        });
        edge("none", () -> sheetIs(0, 0, 1, 1, ""));
        edge("24", () -> sheetIs(1, 24, 0, 1, LINE_24));
        edge("the RULES stay", () -> {
            LongestTokens x = made("0:a;0:b", "abc");
            x.sheet(0, 2, 0, 1);
            due("count(0) behind a sheet", x.count(0), 2);
            x.sheet(3, 2, 0, 1);
            due("count(0) behind a missing one", x.count(0), 2);
        });
        says(8, "Nothing is kept of it that could be undone.");
        edge("a sheet", () -> {
            LongestTokens x = new LongestTokens();
            x.sheet(0, 3, 1, 1);
            due("count(3)", x.count(3), 0);
            due("undo()", x.undo(), -1);
            lineIs(x, "bcd");
        });
        edge("a missing one", () -> {
            LongestTokens x = new LongestTokens();
            x.sheet(3, 3, 1, 1);
            due("undo()", x.undo(), -1);
        });
        edge("what could be undone ahead of it can be", () -> {
            LongestTokens x = made("0:a", "abc");
            x.sheet(0, 2, 1, 1);
            due("count(3)", x.count(3), 2);
            due("undo()", x.undo(), 1);
            lineIs(x, "");
        });
    }

    private static void sheetRefused(int kind, int n, int want) {
        LongestTokens x = made("0:a", "abc");
        due("sheet(" + kind + ", " + n + ", 1, 1)", x.sheet(kind, n, 1, 1), want);
        lineIs(x, "abc");
        due("count(3)", x.count(3), 2);
    }

    private void refusedSheets() {
        says(8, "-2: n below 0 (of kinds 0 .. 2);");
        edge("-1 of bytes", () -> sheetRefused(0, -1, -2));
        edge("-1 of shorts", () -> sheetRefused(1, -1, -2));
        edge("-1 of ints", () -> sheetRefused(2, -1, -2));
        edge("the least", () -> sheetRefused(2, MIN, -2));
        says(8, "-3: missing.");
        edge("n is -1", () -> due("sheet()", made("0:a", "abc").sheet(3, -1, 1, 1), -3));
        edge("n is 0", () -> due("sheet()", made("0:a", "abc").sheet(3, 0, 1, 1), -3));
        edge("n is 24", () -> due("sheet()", made("0:a", "abc").sheet(3, 24, 1, 1), -3));
        edge("the least", () -> due("sheet()", made("0:a", "abc").sheet(3, MIN, 1, 1), -3));
        says(8, "NONE: another kind, n above 24 (these first).");
        edge("kind -1", () -> sheetRefused(-1, 3, -1));
        edge("kind 4", () -> sheetRefused(4, 3, -1));
        edge("the least and the greatest kind", () -> {
            sheetRefused(MIN, 3, -1);
            sheetRefused(MAX, 3, -1);
        });
        edge("n 25 of each kind", () -> {
            sheetRefused(0, 25, -1);
            sheetRefused(1, 25, -1);
            sheetRefused(2, 25, -1);
        });
        edge("the greatest n", () -> sheetRefused(0, MAX, -1));
        edge("n 25 of a missing one", () -> sheetRefused(3, 25, -1));
        edge("another kind, n below 0", () -> sheetRefused(4, -1, -1));
    }
}
