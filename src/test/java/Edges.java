import java.util.ArrayList;
import java.util.List;

/** Sentences of the document that name a boundary, each with tests of its own: one file for each part of the face. */
abstract class Edges {
    interface Test {
        void run();
    }

    interface Question {
        long answer(int i);
    }

    interface Call {
        long answer(LongestTokens x);
    }

    /** What a sentence of the document asks at one boundary. Promise 0: the Terms; -1: what stands ahead of them. */
    record Edge(int promise, String sentence, String what, Test test) {
        String name() {
            String part = promise > 0 ? "promise " + promise : promise == 0 ? "terms" : "what it is";
            return part + ", \"" + sentence + "\": " + what;
        }
    }

    static final int WHAT_IT_IS = -1;
    static final int TERMS = 0;
    static final int MIN = Integer.MIN_VALUE;
    static final int MAX = Integer.MAX_VALUE;
    static final String LINE_24 = "abcdefghabcdefghabcdefgh";
    static final String A_24 = "aaaaaaaaaaaaaaaaaaaaaaaa";

    private final List<Edge> edges = new ArrayList<>();
    private int promise;
    private String sentence = "";

    static List<Edge> all() {
        List<Edge> all = new ArrayList<>();
        for (Edges some : List.of(new TermEdges(), new TextEdges(), new TokenEdges(), new RuleEdges(),
            new ChangeEdges())) {
            some.list();
            all.addAll(some.edges);
        }
        return all;
    }

    /** Names each sentence by says(), and behind it by edge() each boundary that it names. */
    abstract void list();

    final void says(int promiseNow, String sentenceNow) {
        promise = promiseNow;
        sentence = sentenceNow;
    }

    final void edge(String what, Test test) {
        edges.add(new Edge(promise, sentence, what, test));
    }

    static LongestTokens made(String rules, String line) {
        return Check.made(rules, line);
    }

    static void due(String what, long got, long want) {
        Check.due(what, got, want);
    }

    static void due(String what, boolean got, boolean want) {
        Check.due(what, got, want);
    }

    static void due(String what, String got, String want) {
        Check.due(what + " is " + got + ", due is " + want, got.equals(want), true);
    }

    /** An answer with the ROW that it tells. */
    static void tells(String what, LongestTokens x, long got, long want, long... row) {
        Check.due(what, got, want);
        Check.row(what, x, row);
    }

    static void noSuch(String what, Check.Call call) {
        Check.noSuch(what, call);
    }

    static void lineIs(LongestTokens x, String want) {
        due("the LINE", Check.lineOf(x), want);
    }

    static void tokenIs(LongestTokens x, int k, long... want) {
        for (int what = 0; what < want.length; what++) {
            due("token(" + k + ", " + what + ")", x.token(k, what), want[what]);
        }
    }

    /** What is asked with each of some wrong numbers, and that the ROW stays. */
    static void refuses(String name, LongestTokens x, Question question, long want, int... wrong) {
        x.modes(-1);
        for (int i : wrong) {
            due(name + "(" + i + ")", question.answer(i), want);
        }
        Check.row(name + "() refused", x, 0);
    }

    /** What rules() answers to a text. */
    static void rulesTell(String text, int want) {
        due("rules() of " + text, Check.rules(new LongestTokens(), text), want);
    }

    /** All that can be asked of an object without a change of its ROW. */
    static String stateOf(LongestTokens x) {
        StringBuilder state = new StringBuilder(Check.lineOf(x));
        for (int k = 0; k < x.count(0); k++) {
            for (int what = 0; what < 5; what++) {
                state.append(' ').append(x.rule(k, what));
            }
        }
        for (int k = 0; k < x.count(2); k++) {
            for (int what = 0; what < 6; what++) {
                state.append(' ').append(x.token(k, what));
            }
        }
        for (int what = 0; what < 9; what++) {
            state.append(what == 4 ? "" : " " + x.count(what));
        }
        return state.toString();
    }
}
