import java.util.Arrays;
import java.util.NoSuchElementException;

/** What the tests share: answers that are due, texts that are told, and a count of what went wrong. */
final class Check {
    interface Call {
        long answer();
    }

    static final int NO_SUCH = Integer.MIN_VALUE + 7;

    private static int wrong = 0;
    private static int asked = 0;

    private Check() {
    }

    static int wrong() {
        return wrong;
    }

    static int asked() {
        return asked;
    }

    static void due(String what, long got, long want) {
        asked++;
        if (got != want) {
            fail(what + " answered " + got + ", due is " + want);
        }
    }

    static void due(String what, boolean got, boolean want) {
        due(what, got ? 1 : 0, want ? 1 : 0);
    }

    static void fail(String what) {
        wrong++;
        if (wrong < 100) {
            System.out.println(what);
        }
    }

    /** NO_SUCH stands for NoSuchElementException; anything else that is thrown is a fault. */
    static long answer(String what, Call call) {
        try {
            return call.answer();
        } catch (NoSuchElementException e) {
            return NO_SUCH;
        } catch (RuntimeException e) {
            fail(what + " threw " + e);
            return NO_SUCH;
        }
    }

    static void noSuch(String what, Call call) {
        due(what + " (NoSuchElementException)", answer(what, call), NO_SUCH);
    }

    static void row(String what, LongestTokens x, long... want) {
        asked++;
        long[] got = rowOf(x);
        if (!Arrays.equals(got, want)) {
            fail(what + " told the row " + Arrays.toString(got) + ", due is " + Arrays.toString(want));
        }
    }

    static long[] rowOf(LongestTokens x) {
        long[] got = new long[x.count(4)];
        for (int i = 0; i < got.length; i++) {
            got[i] = x.row(i);
        }
        return got;
    }

    /** Puts a text behind THE TEXT, which is empty ahead of it. */
    static void say(LongestTokens x, String text) {
        int length = 0;
        for (int i = 0; i < text.length(); i += 4) {
            int v = 0;
            for (int j = i; j < i + 4; j++) {
                v = v << 8 | (j < text.length() ? text.charAt(j) & 255 : 0);
            }
            length = x.sign(v);
        }
        due("sign() for " + text, length, (text.length() + 3) / 4 * 4);
        due("end() for " + text, x.end(text.length()), true);
    }

    static int rules(LongestTokens x, String text) {
        say(x, text);
        return x.rules();
    }

    static int line(LongestTokens x, String text) {
        say(x, text);
        return x.line();
    }

    static int day(LongestTokens x, String text) {
        say(x, text);
        return x.day();
    }

    static LongestTokens made(String rules, String line) {
        LongestTokens x = new LongestTokens();
        if (rules(x, rules) < 0) {
            fail("rules " + rules + " are refused");
        }
        if (line(x, line) < 0) {
            fail("line " + line + " is refused");
        }
        return x;
    }

    static String lineOf(LongestTokens x) {
        StringBuilder signs = new StringBuilder();
        for (int p = 0; p < x.count(1); p++) {
            signs.append((char) ('a' + x.at(p)));
        }
        return signs.toString();
    }
}
