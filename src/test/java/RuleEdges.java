/** Boundaries that promises 20 to 30 name: what RULES match, and stretches of the LINE. */
final class RuleEdges extends Edges {
    @Override
    void list() {
        longest();
        matches();
        stands();
        states();
        shortest();
        idle();
        overlap();
        ways();
        fewest();
        touched();
        same();
    }

    private interface Stretch {
        long answer(LongestTokens x, int i, int j);
    }

    private static void refusesStretch(String line, Stretch stretch, int i, int j) {
        LongestTokens x = made("0:a;0:b", line);
        x.modes(-1);
        due("from " + i + " to " + j, stretch.answer(x, i, j), -1);
        Check.row("from " + i + " to " + j, x, 0);
    }

    /** What "others" tells of a stretch: it begins below 0 or ends beyond the LINE. */
    private void otherStretches(String i, String j, Stretch stretch) {
        edge(i + " is -1", () -> refusesStretch("ab", stretch, -1, 1));
        edge(j + " is one beyond", () -> refusesStretch("ab", stretch, 0, 3));
        edge(i + " and " + j + " are one beyond", () -> refusesStretch("ab", stretch, 3, 3));
        edge(i + " and " + j + " are -1", () -> refusesStretch("ab", stretch, -1, -1));
        edge(j + " is beyond 24", () -> refusesStretch(LINE_24, stretch, 0, 25));
        edge(i + " is 0, " + j + " is 1 of an empty LINE", () -> refusesStretch("", stretch, 0, 1));
        edge("the least and the most " + i + ", " + j, () -> {
            refusesStretch("ab", stretch, MIN, 1);
            refusesStretch("ab", stretch, 0, MAX);
            refusesStretch("ab", stretch, MIN, MAX);
            refusesStretch("ab", stretch, MAX, MAX);
            refusesStretch("ab", stretch, MIN, MIN);
        });
    }

    private void longest() {
        says(20, "In a MODE, from place p: the longest row with a WINNER: how many signs; the ROW: the RULE.");
        edge("from the first place", () -> {
            LongestTokens x = made("0:a|aab", "aab");
            tells("longest(0, 0)", x, x.longest(0, 0), 3, 0);
        });
        edge("from the last place", () -> {
            LongestTokens x = made("0:a;0:b", "aab");
            tells("longest(0, 2)", x, x.longest(0, 2), 1, 1);
        });
        edge("of 24 signs", () -> {
            LongestTokens x = made("0:a;0:.*", LINE_24);
            tells("longest(0, 0)", x, x.longest(0, 0), 24, 1);
        });
        edge("the highest MODE", () -> {
            LongestTokens x = made("0:a;3:aa", "aa");
            tells("longest(3, 0)", x, x.longest(3, 0), 2, 1);
        });
        edge("a shorter one than is READ", () -> {
            LongestTokens x = made("0:a;0:aaab", "aaa");
            tells("longest(0, 0)", x, x.longest(0, 0), 1, 0);
        });
        says(20, "-2: none;");
        edge("no RULE of the MODE", () -> refusesLongest(-2, 1, 0));
        edge("none from there", () -> refusesLongest(-2, 0, 2));
        edge("behind the last place", () -> refusesLongest(-2, 0, 3));
        edge("of an empty LINE", () -> {
            LongestTokens x = made("0:a", "");
            refuses("longest", x, p -> x.longest(0, p), -2, 0);
        });
        edge("a row without signs is none", () -> {
            LongestTokens x = made("0:b*", "a");
            refuses("longest", x, p -> x.longest(0, p), -2, 0, 1);
        });
        says(20, "NONE: another MODE, p is not 0 .. n.");
        edge("MODE -1", () -> refusesLongest(-1, -1, 0));
        edge("MODE 4", () -> refusesLongest(-1, 4, 0));
        edge("the least and the greatest MODE", () -> {
            refusesLongest(-1, MIN, 0);
            refusesLongest(-1, MAX, 0);
        });
        edge("p is -1", () -> refusesLongest(-1, 0, -1));
        edge("p is n + 1", () -> refusesLongest(-1, 0, 4));
        edge("the least and the greatest p", () -> {
            refusesLongest(-1, 0, MIN);
            refusesLongest(-1, 0, MAX);
        });
        edge("p is 25", () -> {
            LongestTokens x = made("0:a", LINE_24);
            refuses("longest", x, p -> x.longest(0, p), -1, 25);
            refuses("longest", x, p -> x.longest(0, p), -2, 24);
        });
    }

    private static void refusesLongest(int want, int mode, int p) {
        LongestTokens x = made("0:a", "aac");
        refuses("longest of MODE " + mode, x, place -> x.longest(mode, place), want, p);
    }

    private void matches() {
        says(21, "RULES that MATCH the signs from place i up to j (not j; bits): they;");
        edge("all signs", () -> {
            LongestTokens x = made("0:a+;1:b;2:aa", "aa");
            tells("matches(0, 2)", x, x.matches(0, 2), 1 | 4, 0, -1, 2, -1);
        });
        edge("not the sign at j", () -> {
            LongestTokens x = made("0:a;0:ab", "ab");
            tells("matches(0, 1)", x, x.matches(0, 1), 1, 0, -1, -1, -1);
        });
        edge("no signs", () -> {
            LongestTokens x = made("0:a*;1:a;3:a?", "ab");
            tells("matches(0, 0)", x, x.matches(0, 0), 1 | 4, 0, -1, -1, 2);
            tells("matches(2, 2)", x, x.matches(2, 2), 1 | 4, 0, -1, -1, 2);
        });
        edge("no signs of an empty LINE", () -> {
            LongestTokens x = made("0:a*", "");
            tells("matches(0, 0)", x, x.matches(0, 0), 1, 0, -1, -1, -1);
        });
        edge("24 signs", () -> {
            LongestTokens x = made("0:.+", LINE_24);
            tells("matches(0, 24)", x, x.matches(0, 24), 1, 0, -1, -1, -1);
        });
        edge("all of eight RULES", () -> {
            LongestTokens x = made("0:a;1:a;2:a;3:a;0:.;1:.;2:.;3:.", "a");
            tells("matches(0, 1)", x, x.matches(0, 1), 255, 0, 1, 2, 3);
        });
        says(21, "the ROW: WINNERS of MODES 0 .. 3 (NONE without).");
        edge("none", () -> {
            LongestTokens x = made("0:a;1:a;2:a;3:a", "b");
            tells("matches(0, 1)", x, x.matches(0, 1), 0, -1, -1, -1, -1);
        });
        edge("one of MODE 3", () -> {
            LongestTokens x = made("0:a;3:b;3:.", "b");
            tells("matches(0, 1)", x, x.matches(0, 1), 6, -1, -1, -1, 1);
        });
        edge("the last of eight RULES", () -> {
            LongestTokens x = made("0:a;1:a;2:a;3:a;0:b;1:b;2:b;3:c", "c");
            tells("matches(0, 1)", x, x.matches(0, 1), 128, -1, -1, -1, 7);
        });
        edge("no RULES", () -> {
            LongestTokens x = made("", "b");
            tells("matches(0, 0)", x, x.matches(0, 0), 0, -1, -1, -1, -1);
        });
        says(21, "NONE: i above j, others.");
        edge("i is one above j", () -> refusesStretch("ab", (x, i, j) -> x.matches(i, j), 1, 0));
        edge("i is one above j at the end", () -> refusesStretch("ab", (x, i, j) -> x.matches(i, j), 3, 2));
        otherStretches("i", "j", (x, i, j) -> x.matches(i, j));
    }

    private void stands() {
        says(22, "STANDING of a MODE behind the signs from place i up to j (not j): how many LETTERS; the ROW: signs "
            + "(bits) that can come behind so that it is not DEAD.");
        edge("one sign", () -> {
            LongestTokens x = made("0:ah", "a");
            tells("stands(0, 0, 1)", x, x.stands(0, 0, 1), 1, 128);
        });
        edge("not the sign at j", () -> {
            LongestTokens x = made("0:abc", "abc");
            tells("stands(0, 0, 2)", x, x.stands(0, 0, 2), 1, 4);
        });
        edge("24 signs", () -> {
            LongestTokens x = made("3:.*", LINE_24);
            tells("stands(3, 0, 24)", x, x.stands(3, 0, 24), 1, 255);
        });
        edge("DEAD", () -> {
            LongestTokens x = made("0:ab", "aab");
            tells("stands(0, 0, 3)", x, x.stands(0, 0, 3), 0, 0);
        });
        edge("no sign can come behind", () -> {
            LongestTokens x = made("0:ab", "ab");
            tells("stands(0, 0, 2)", x, x.stands(0, 0, 2), 1, 0);
        });
        says(22, "NONE: another MODE, i not below j, others.");
        edge("MODE -1", () -> refusesStretch("ab", (x, i, j) -> x.stands(-1, i, j), 0, 1));
        edge("MODE 4", () -> refusesStretch("ab", (x, i, j) -> x.stands(4, i, j), 0, 1));
        edge("the least and the greatest MODE", () -> {
            refusesStretch("ab", (x, i, j) -> x.stands(MIN, i, j), 0, 1);
            refusesStretch("ab", (x, i, j) -> x.stands(MAX, i, j), 0, 1);
        });
        edge("i is j", () -> refusesStretch("ab", (x, i, j) -> x.stands(0, i, j), 1, 1));
        edge("i is j at the end", () -> refusesStretch("ab", (x, i, j) -> x.stands(0, i, j), 2, 2));
        edge("i is above j", () -> refusesStretch("ab", (x, i, j) -> x.stands(0, i, j), 2, 1));
        otherStretches("i", "j", (x, i, j) -> x.stands(0, i, j));
    }

    private void states() {
        says(23, "How many different STANDINGS of a MODE can be come to (not DEAD); the ROW: how many of these have a "
            + "WINNER.");
        edge("no RULES", () -> {
            LongestTokens x = made("", "a");
            tells("states(0)", x, x.states(0), 0, 0);
        });
        edge("no RULES of the MODE", () -> {
            LongestTokens x = made("0:a", "a");
            tells("states(3)", x, x.states(3), 0, 0);
        });
        edge("one", () -> {
            LongestTokens x = made("3:a", "");
            tells("states(3)", x, x.states(3), 1, 1);
        });
        edge("not that behind no sign", () -> {
            LongestTokens x = made("0:a*b", "");
            tells("states(0)", x, x.states(0), 2, 1);
        });
        edge("one that is come to again", () -> {
            LongestTokens x = made("0:(ab)*", "");
            tells("states(0)", x, x.states(0), 2, 1);
        });
        edge("as many as ten LETTERS make", () -> {
            LongestTokens x = made("0:(.*)a........", "");
            // Which of the last nine signs were an a; with a WINNER half of them.
            tells("states(0)", x, x.states(0), 512, 256);
        });
        says(23, "NONE: another MODE.");
        edge("-1", () -> refusesStates(-1));
        edge("4", () -> refusesStates(4));
        edge("the least and the most", () -> refusesStates(MIN, MAX));
    }

    private static void refusesStates(int... wrong) {
        LongestTokens x = made("0:a", "a");
        refuses("states", x, m -> x.states(m), -1, wrong);
    }

    private void shortest() {
        says(24, "The shortest row of signs (one at least) of which RULE k is the WINNER in its MODE (of equally long "
            + "ones the first by the alphabet): how many signs; the ROW: they.");
        edge("a RULE that MATCHES no signs, too", () -> {
            LongestTokens x = made("0:b*", "");
            tells("shortest(0)", x, x.shortest(0), 1, 1);
        });
        edge("the first sign and the last", () -> {
            LongestTokens x = made("0:a;0:h", "");
            tells("shortest(0)", x, x.shortest(0), 1, 0);
            tells("shortest(1)", x, x.shortest(1), 1, 7);
        });
        edge("of equally long ones the first", () -> {
            LongestTokens x = made("0:h.|b.|g.", "");
            tells("shortest(0)", x, x.shortest(0), 2, 1, 0);
        });
        edge("a shorter one, though a longer one is ahead by the alphabet", () -> {
            LongestTokens x = made("0:aaa|h", "");
            tells("shortest(0)", x, x.shortest(0), 1, 7);
        });
        edge("shorter ones have another WINNER", () -> {
            LongestTokens x = made("0:aa?a?;0:a*", "");
            tells("shortest(1)", x, x.shortest(1), 4, 0, 0, 0, 0);
        });
        edge("the first one has another WINNER", () -> {
            LongestTokens x = made("0:ab|aa;0:..", "");
            tells("shortest(1)", x, x.shortest(1), 2, 0, 2);
        });
        edge("a RULE ahead of it in another MODE", () -> {
            LongestTokens x = made("0:a;3:a", "");
            tells("shortest(1)", x, x.shortest(1), 1, 0);
        });
        edge("ten signs", () -> {
            LongestTokens x = made("0:aaaaaaaaaa", "");
            tells("shortest(0)", x, x.shortest(0), 10, 0, 0, 0, 0, 0, 0, 0, 0, 0, 0);
        });
        edge("longer than all LETTERS together", () -> {
            LongestTokens x = made("0:(aaaa)*aa?a?;0:(aaa)+", "");
            tells("shortest(1)", x, x.shortest(1), 12, 0, 0, 0, 0, 0, 0, 0, 0, 0, 0, 0, 0);
        });
        says(24, "-2: there is none;");
        edge("another RULE wins all of its rows", () -> refusesShortest("0:a|b;0:b", -2, 1));
        edge("it alone wins the row without signs", () -> refusesShortest("0:a;0:a?", -2, 1));
        says(24, "NONE: no such RULE.");
        edge("-1", () -> refusesShortest("0:a;0:b", -1, -1));
        edge("behind the last", () -> refusesShortest("0:a;0:b", -1, 2));
        edge("the first of none", () -> refusesShortest("", -1, 0));
        edge("a ninth", () -> refusesShortest("0:a;0:b;0:c;0:d;0:e;0:f;0:g;0:h", -1, 8));
        edge("the least and the most", () -> refusesShortest("0:a;0:b", -1, MIN, MAX));
    }

    private static void refusesShortest(String rules, long want, int... wrong) {
        LongestTokens x = made(rules, "");
        refuses("shortest", x, k -> x.shortest(k), want, wrong);
    }

    private void idle() {
        says(25, "RULES that never win (bits): they; the ROW: how many.");
        edge("none", () -> {
            LongestTokens x = made("0:a;1:a", "");
            tells("idle()", x, x.idle(), 0, 0);
        });
        edge("no RULES", () -> {
            LongestTokens x = new LongestTokens();
            tells("idle()", x, x.idle(), 0, 0);
        });
        edge("the last of eight", () -> {
            LongestTokens x = made("0:a;0:b;0:c;0:d;0:e;0:f;0:g;0:g", "");
            tells("idle()", x, x.idle(), 128, 1);
        });
        edge("all but the first", () -> {
            LongestTokens x = made("3:.;3:b;3:c;3:d;3:e;3:f;3:g;3:g", "");
            tells("idle()", x, x.idle(), 254, 7);
        });
        edge("one row is left", () -> {
            LongestTokens x = made("0:a|b|c|d|e|f|g;0:.", "");
            tells("idle()", x, x.idle(), 0, 0);
        });
        edge("the row without signs alone is left", () -> {
            LongestTokens x = made("0:a;0:a?", "");
            tells("idle()", x, x.idle(), 2, 1);
        });
    }

    private void overlap() {
        says(26, "The shortest row of signs (one at least) that both RULES of one MODE MATCH (of equally long ones the "
            + "first by the alphabet): how many signs; the ROW: they.");
        edge("one sign", () -> {
            LongestTokens x = made("3:.;3:h", "");
            tells("overlap(0, 1)", x, x.overlap(0, 1), 1, 7);
            tells("overlap(1, 0)", x, x.overlap(1, 0), 1, 7);
        });
        edge("both MATCH no signs, too", () -> {
            LongestTokens x = made("0:(aa)*;0:(aaa)*", "");
            tells("overlap(0, 1)", x, x.overlap(0, 1), 6, 0, 0, 0, 0, 0, 0);
        });
        edge("of equally long ones the first", () -> {
            LongestTokens x = made("0:.h|.c;0:b.|g.", "");
            tells("overlap(0, 1)", x, x.overlap(0, 1), 2, 1, 2);
        });
        edge("a RULE ahead of both is the WINNER", () -> {
            LongestTokens x = made("0:.;0:a;0:a|b", "");
            tells("overlap(1, 2)", x, x.overlap(1, 2), 1, 0);
        });
        edge("longer than all LETTERS together", () -> {
            LongestTokens x = made("0:(aaa)+;0:(aaaaaaa)+", "");
            tells("overlap(0, 1)", x, x.overlap(0, 1), 21, 0, 0, 0, 0, 0, 0, 0, 0, 0, 0, 0, 0, 0, 0, 0, 0, 0, 0, 0, 0,
                0);
        });
        says(26, "-2: there is none;");
        edge("no row", () -> refusesOverlap("0:a;0:b", -2, 0, 1));
        edge("the row without signs alone", () -> refusesOverlap("0:a?;0:b?", -2, 0, 1));
        says(26, "-3: they are of two MODES;");
        edge("the lowest and the highest", () -> refusesOverlap("0:a;3:a", -3, 0, 1));
        edge("the other one first", () -> refusesOverlap("0:a;3:a", -3, 1, 0));
        says(26, "NONE: no such RULES, the same one twice.");
        edge("the first is -1", () -> refusesOverlap("0:a;0:a", -1, -1, 0));
        edge("the second is -1", () -> refusesOverlap("0:a;0:a", -1, 0, -1));
        edge("the first is behind the last", () -> refusesOverlap("0:a;0:a", -1, 2, 0));
        edge("the second is behind the last", () -> refusesOverlap("0:a;0:a", -1, 0, 2));
        edge("no RULES", () -> refusesOverlap("", -1, 0, 1));
        edge("a ninth", () -> refusesOverlap("0:a;0:b;0:c;0:d;0:e;0:f;0:g;0:h", -1, 0, 8));
        edge("the least and the most", () -> {
            refusesOverlap("0:a;0:a", -1, MIN, 0);
            refusesOverlap("0:a;0:a", -1, 0, MAX);
        });
        edge("the first one twice", () -> refusesOverlap("0:a;0:a", -1, 0, 0));
        edge("the last one twice", () -> refusesOverlap("0:a;0:a", -1, 1, 1));
    }

    private static void refusesOverlap(String rules, long want, int k, int other) {
        LongestTokens x = made(rules, "");
        refuses("overlap of " + k, x, o -> x.overlap(k, o), want, other);
    }

    private void ways() {
        says(27, "In how many ways the signs from place i up to j (not j) can be cut into rows (one sign at least) "
            + "that RULES of MODE 0 MATCH (ACTS are not done; 1,000,000 at most): how many;");
        edge("no signs", () -> {
            LongestTokens x = made("0:a", "ab");
            tells("ways(0, 0)", x, x.ways(0, 0), 1, 0);
            tells("ways(2, 2)", x, x.ways(2, 2), 1, 0);
        });
        edge("no signs of an empty LINE", () -> {
            LongestTokens x = new LongestTokens();
            tells("ways(0, 0)", x, x.ways(0, 0), 1, 0);
        });
        edge("not the sign at j", () -> {
            LongestTokens x = made("0:a", "ab");
            tells("ways(0, 1)", x, x.ways(0, 1), 1, 1);
        });
        edge("a row has one sign at least", () -> {
            LongestTokens x = made("0:a*", "aa");
            tells("ways(0, 2)", x, x.ways(0, 2), 2, 1);
        });
        edge("two RULES of one row are one way", () -> {
            LongestTokens x = made("0:a;0:.", "aa");
            tells("ways(0, 2)", x, x.ways(0, 2), 1, 2);
        });
        edge("RULES of MODE 0 alone", () -> {
            LongestTokens x = made("0:a;1:b;1:ab", "ab");
            tells("ways(0, 2)", x, x.ways(0, 2), 0, -1);
        });
        edge("ACTS are not done", () -> {
            LongestTokens x = made("0:a=1;1:b", "aa");
            tells("ways(0, 2)", x, x.ways(0, 2), 1, 2);
        });
        edge("524288, below the most", () -> {
            LongestTokens x = made("0:a+", A_24);
            tells("ways(0, 20)", x, x.ways(0, 20), 524288, 1);
        });
        edge("1048576, beyond the most", () -> {
            LongestTokens x = made("0:a+", A_24);
            tells("ways(3, 24)", x, x.ways(3, 24), 1000000, 1);
        });
        edge("8388608, of all 24", () -> {
            LongestTokens x = made("0:a+", A_24);
            tells("ways(0, 24)", x, x.ways(0, 24), 1000000, 1);
        });
        says(27, "the ROW: the fewest rows of one (NONE without).");
        edge("without", () -> {
            LongestTokens x = made("0:a", "ab");
            tells("ways(0, 2)", x, x.ways(0, 2), 0, -1);
        });
        edge("without RULES", () -> {
            LongestTokens x = made("", "a");
            tells("ways(0, 1)", x, x.ways(0, 1), 0, -1);
        });
        edge("fewer without the longest row", () -> {
            LongestTokens x = made("0:a|aaaa|aaaaa", A_24);
            tells("ways(0, 8)", x, x.ways(0, 8), 11, 2);
        });
        edge("24 of one sign each", () -> {
            LongestTokens x = made("0:.", LINE_24);
            tells("ways(0, 24)", x, x.ways(0, 24), 1, 24);
        });
        says(27, "NONE: i above j, others.");
        edge("i is one above j", () -> refusesStretch("ab", (x, i, j) -> x.ways(i, j), 1, 0));
        edge("i is one above j at the end", () -> refusesStretch("ab", (x, i, j) -> x.ways(i, j), 3, 2));
        otherStretches("i", "j", (x, i, j) -> x.ways(i, j));
    }

    private void fewest() {
        says(28, "The fewest rows into which ways() cuts the signs from place i up to j (not j): how many; the ROW: "
            + "the place behind each (of as few the first such row of places).");
        edge("no signs", () -> {
            LongestTokens x = made("0:a", "ab");
            x.cut();
            tells("fewest(0, 0)", x, x.fewest(0, 0), 0);
            x.cut();
            tells("fewest(2, 2)", x, x.fewest(2, 2), 0);
        });
        edge("one row of one sign", () -> {
            LongestTokens x = made("0:a", "ba");
            tells("fewest(1, 2)", x, x.fewest(1, 2), 1, 2);
        });
        edge("one row of 24", () -> {
            LongestTokens x = made("0:.*", LINE_24);
            tells("fewest(0, 24)", x, x.fewest(0, 24), 1, 24);
        });
        edge("24 rows", () -> {
            LongestTokens x = made("0:.", LINE_24);
            due("fewest(0, 24)", x.fewest(0, 24), 24);
            due("count(4)", x.count(4), 24);
            due("row(0)", x.row(0), 1);
            due("row(23)", x.row(23), 24);
        });
        edge("of as few the first", () -> {
            LongestTokens x = made("0:a|aa|aaa", "aaaa");
            tells("fewest(0, 4)", x, x.fewest(0, 4), 2, 1, 4);
        });
        edge("the first such, though it ends with longer ones", () -> {
            LongestTokens x = made("0:aa|aaaa|aaa", "aaaaaaaaa");
            tells("fewest(0, 9)", x, x.fewest(0, 9), 3, 2, 5, 9);
        });
        edge("fewer without the longest row", () -> {
            LongestTokens x = made("0:a|aaaa|aaaaa", A_24);
            tells("fewest(0, 8)", x, x.fewest(0, 8), 2, 4, 8);
        });
        says(28, "-2: there is no way;");
        edge("the last sign is no row", () -> refusesFewest("ab", 0, 2));
        edge("the first sign is no row", () -> refusesFewest("ba", 0, 2));
        edge("no RULES of MODE 0", () -> {
            LongestTokens x = made("1:a", "a");
            refuses("fewest", x, j -> x.fewest(0, j), -2, 1);
        });
        says(28, "NONE: i above j, others.");
        edge("i is one above j", () -> refusesStretch("ab", (x, i, j) -> x.fewest(i, j), 1, 0));
        edge("i is one above j at the end", () -> refusesStretch("ab", (x, i, j) -> x.fewest(i, j), 3, 2));
        otherStretches("i", "j", (x, i, j) -> x.fewest(i, j));
    }

    private static void refusesFewest(String line, int i, int j) {
        LongestTokens x = made("0:a", line);
        refuses("fewest from " + i, x, end -> x.fewest(i, end), -2, j);
    }

    private void touched() {
        says(29, "TOKENS that a change at place q could touch: from the first one on whose REACH is above q: how many; "
            + "the ROW: the number of that one, its first place.");
        edge("the first place", () -> {
            LongestTokens x = made("0:a", "aaa");
            tells("touched(0)", x, x.touched(0), 3, 0, 0);
        });
        edge("the last place", () -> {
            LongestTokens x = made("", "abc");
            tells("touched(2)", x, x.touched(2), 1, 2, 2);
        });
        edge("REACH is q", () -> {
            LongestTokens x = made("0:aa", "aabb");
            due("REACH", x.token(0, 3), 3);
            tells("touched(3)", x, x.touched(3), 1, 2, 3);
        });
        edge("REACH is one above q", () -> {
            LongestTokens x = made("0:aa", "aabb");
            due("REACH", x.token(0, 3), 3);
            tells("touched(2)", x, x.touched(2), 3, 0, 0);
        });
        edge("one behind it whose REACH is not above q", () -> {
            LongestTokens x = made("0:a;0:abbbc;0:b", "abbb");
            due("REACH of the second", x.token(1, 3), 3);
            tells("touched(3)", x, x.touched(3), 4, 0, 0);
        });
        edge("the last of 24", () -> {
            LongestTokens x = made("0:.", LINE_24);
            tells("touched(23)", x, x.touched(23), 2, 22, 22);
        });
        says(29, "NONE: no such place.");
        edge("-1", () -> refusesTouched("aa", -1));
        edge("behind the last", () -> refusesTouched("aa", 2));
        edge("of an empty LINE", () -> refusesTouched("", 0));
        edge("behind 24", () -> refusesTouched(LINE_24, 24));
        edge("the least and the most", () -> refusesTouched("aa", MIN, MAX));
    }

    private static void refusesTouched(String line, int... wrong) {
        LongestTokens x = made("0:a", line);
        refuses("touched", x, q -> x.touched(q), -1, wrong);
    }

    private void same() {
        says(30, "1 if STANDING of a MODE behind the signs from place i up to j (not j) is the same as behind those "
            + "from k up to l (not l), else 0; the ROW: how many LETTERS STAND behind both.");
        edge("the same stretch", () -> {
            LongestTokens x = made("0:a*b", "ab");
            tells("same(0, 0, 1, 0, 1)", x, x.same(0, 0, 1, 0, 1), 1, 1);
        });
        edge("not the signs at j and l", () -> {
            LongestTokens x = made("0:ab;0:ac", "abac");
            tells("same(0, 0, 1, 2, 3)", x, x.same(0, 0, 1, 2, 3), 1, 2);
        });
        edge("some LETTERS STAND behind both", () -> {
            LongestTokens x = made("0:a*b;0:ac", "aa");
            tells("same(0, 0, 1, 0, 2)", x, x.same(0, 0, 1, 0, 2), 0, 1);
            tells("same(0, 0, 2, 0, 1)", x, x.same(0, 0, 2, 0, 1), 0, 1);
        });
        edge("both are DEAD", () -> {
            LongestTokens x = made("0:a", "bcd");
            tells("same(0, 0, 1, 1, 3)", x, x.same(0, 0, 1, 1, 3), 1, 0);
        });
        edge("one is DEAD", () -> {
            LongestTokens x = made("0:a", "ab");
            tells("same(0, 0, 1, 0, 2)", x, x.same(0, 0, 1, 0, 2), 0, 0);
        });
        edge("the highest MODE and 24 signs", () -> {
            LongestTokens x = made("3:.*", LINE_24);
            tells("same(3, 0, 24, 23, 24)", x, x.same(3, 0, 24, 23, 24), 1, 1);
        });
        says(30, "NONE: another MODE, i not below j, k not below l, others.");
        edge("MODE -1", () -> refusesStretch("ab", (x, i, j) -> x.same(-1, i, j, 0, 1), 0, 1));
        edge("MODE 4", () -> refusesStretch("ab", (x, i, j) -> x.same(4, i, j, 0, 1), 0, 1));
        edge("the least and the greatest MODE", () -> {
            refusesStretch("ab", (x, i, j) -> x.same(MIN, i, j, 0, 1), 0, 1);
            refusesStretch("ab", (x, i, j) -> x.same(MAX, i, j, 0, 1), 0, 1);
        });
        edge("i is j", () -> refusesStretch("ab", (x, i, j) -> x.same(0, i, j, 0, 1), 1, 1));
        edge("i is above j", () -> refusesStretch("ab", (x, i, j) -> x.same(0, i, j, 0, 1), 2, 1));
        edge("k is l", () -> refusesStretch("ab", (x, k, l) -> x.same(0, 0, 1, k, l), 1, 1));
        edge("k is above l", () -> refusesStretch("ab", (x, k, l) -> x.same(0, 0, 1, k, l), 2, 1));
        edge("both are", () -> refusesStretch("ab", (x, i, j) -> x.same(0, i, j, i, j), 1, 1));
        otherStretches("i", "j", (x, i, j) -> x.same(0, i, j, 0, 1));
        otherStretches("k", "l", (x, k, l) -> x.same(0, 0, 1, k, l));
    }
}
