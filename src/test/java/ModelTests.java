import java.util.Arrays;
import java.util.Random;

/** Random runs of calls, each asked of the class and of the model. */
final class ModelTests {
    private static final int RUNS = 1200;
    private static final int TEXTS = 20000;
    private static final int WILD_RUNS = 300;

    private static LongestTokens x;
    private static Model model;

    private ModelTests() {
    }

    static void randomRuns() {
        for (int run = 0; run < RUNS; run++) {
            Random random = new Random(run);
            start();
            String signs = random.nextBoolean() ? "ab" : random.nextBoolean() ? "abc" : "abcdefgh";
            int calls = 20 + random.nextInt(60);
            for (int call = 0; call < calls; call++) {
                if (call == 0 || random.nextInt(20) == 0) {
                    feed(randomRules(random, signs));
                    ask("run " + run + " rules()", x::rules, model::rules);
                }
                if (call == 0 || random.nextInt(15) == 0) {
                    feed(randomSigns(random, signs, random.nextInt(10) == 0 ? 24 : random.nextInt(14)));
                    ask("run " + run + " line()", x::line, model::line);
                }
                if (random.nextInt(15) == 0) {
                    feed(randomDay(random, signs));
                    ask("run " + run + " day()", x::day, model::day);
                }
                randomCall(random, "run " + run + " ", true);
            }
        }
    }

    static void randomTexts() {
        Random random = new Random(77);
        start();
        for (int i = 0; i < TEXTS; i++) {
            if (i % 200 == 0) {
                start();
            }
            String alphabet = random.nextInt(3) == 0 ? "abch.()|*+?<>=;:0123456 i\u00ffr" : "a.()|*?<>=;:02d";
            int which = random.nextInt(4);
            String text = which == 3 ? randomDay(random, "ab")
                : which == 2 ? randomSigns(random, "abh", 20 + random.nextInt(8)) : randomRules(random, "abc");
            int hits = random.nextInt(4);
            StringBuilder changed = new StringBuilder(text);
            for (int hit = 0; hit < hits; hit++) {
                int p = random.nextInt(changed.length() + 1);
                changed.insert(p, alphabet.charAt(random.nextInt(alphabet.length())));
                int gone = random.nextInt(changed.length());
                if (random.nextBoolean()) {
                    changed.deleteCharAt(gone);
                }
            }
            changed.setLength(Math.min(changed.length(), 80));
            feed(changed.toString());
            if (which == 3) {
                ask("day() " + changed, x::day, model::day);
            } else if (which == 2) {
                ask("line() " + changed, x::line, model::line);
            } else {
                ask("rules() " + changed, x::rules, model::rules);
            }
        }
    }

    /** Arguments from all over the ints; what is answered is asked of the model, and nothing else may be thrown. */
    static void anyArguments() {
        for (int run = 0; run < WILD_RUNS; run++) {
            Random random = new Random(-1 - run);
            start();
            for (int call = 0; call < 100; call++) {
                if (random.nextInt(30) == 0) {
                    feed(randomRules(random, "abc"));
                    ask("wild run " + run + " rules()", x::rules, model::rules);
                }
                randomCall(random, "wild run " + run + " ", false);
            }
        }
    }

    private static void start() {
        x = new LongestTokens();
        model = new Model();
    }

    private static void feed(String text) {
        Check.due("end(0)", x.end(0), model.end(0));
        Check.say(x, text);
        for (int i = 0; i < text.length(); i += 4) {
            int v = 0;
            for (int j = i; j < i + 4; j++) {
                v = v << 8 | (j < text.length() ? text.charAt(j) & 255 : 0);
            }
            model.sign(v);
        }
        Check.due("end()", true, model.end(text.length()));
    }

    private static void ask(String what, Check.Call mine, Check.Call due) {
        int wrong = Check.wrong();
        Check.due(what, Check.answer(what, mine), Check.answer(what + " (model)", due));
        long[] want = new long[model.count(4)];
        for (int i = 0; i < want.length; i++) {
            want[i] = model.row(i);
        }
        Check.row(what, x, want);
        for (int count = -1; count <= 9; count++) {
            Check.due(what + " and then count(" + count + ")", x.count(count), model.count(count));
        }
        if (Check.wrong() > wrong) {
            System.out.println("  model's row " + Arrays.toString(want) + " line " + Check.lineOf(x));
            // One fault would be told again by all that follows.
            throw new IllegalStateException("the model answers otherwise: " + what);
        }
    }

    private static int number(Random random, int low, int high, boolean isTame) {
        if (isTame) {
            return random.nextInt(25) == 0 ? low - 2 + random.nextInt(high - low + 5)
                : low + random.nextInt(high - low + 1);
        }
        switch (random.nextInt(6)) {
            case 0:
                return random.nextInt();
            case 1:
                return random.nextBoolean() ? Integer.MIN_VALUE : Integer.MAX_VALUE;
            default:
                return low - 2 + random.nextInt(high - low + 5);
        }
    }

    private static void randomCall(Random random, String run, boolean isTame) {
        int n = x.count(1);
        int m = number(random, 0, 3, isTame);
        int i = number(random, 0, n, isTame);
        int j = isTame ? Math.min(i + random.nextInt(Math.max(1, n - i + 1)), 30) : number(random, 0, n, false);
        int k = number(random, 0, n, isTame);
        int l = isTame ? Math.min(k + random.nextInt(Math.max(1, n - k + 1)), 30) : number(random, 0, n, false);
        int q = number(random, 0, Math.max(n - 1, 0), isTame);
        int s = number(random, 0, 7, isTame);
        int t = number(random, 0, Math.max(x.count(2) - 1, 0), isTame);
        int r = number(random, 0, Math.max(x.count(0) - 1, 0), isTame);
        int r2 = number(random, 0, Math.max(x.count(0) - 1, 0), isTame);
        int two = number(random, 0, 1, isTame);
        int wild = random.nextInt();
        int small = number(random, 0, 5, isTame);
        int which = random.nextInt(39);
        String of = run + "call " + which + " of";
        switch (which) {
            case 0: ask(of + " sign", () -> x.sign(wild), () -> model.sign(wild)); break;
            case 1: ask(of + " end", () -> x.end(i) ? 1 : 0, () -> model.end(i) ? 1 : 0); break;
            case 2: ask(of + " rule", () -> x.rule(r, small), () -> model.rule(r, small)); break;
            case 3: ask(of + " at", () -> x.at(q), () -> model.at(q)); break;
            case 4:
                if (random.nextInt(3) == 0) {
                    int entries = number(random, 0, 24, isTame);
                    ask(of + " sheet", () -> x.sheet(m, entries, wild, s), () -> model.sheet(m, entries, wild, s));
                }
                break;
            case 5: ask(of + " cut", () -> x.cut(), () -> model.cut()); break;
            case 6: ask(of + " token", () -> x.token(t, small), () -> model.token(t, small)); break;
            case 7: ask(of + " modes", () -> x.modes(t), () -> model.modes(t)); break;
            case 8: ask(of + " holds", () -> x.holds(q), () -> model.holds(q)); break;
            case 9: ask(of + " stuck", () -> x.stuck(), () -> model.stuck()); break;
            case 10: ask(of + " by", () -> x.by(r), () -> model.by(r)); break;
            case 11: ask(of + " like", () -> x.like(two), () -> model.like(two)); break;
            case 12: ask(of + " moded", () -> x.moded(m), () -> model.moded(m)); break;
            case 13: ask(of + " readers", () -> x.readers(q), () -> model.readers(q)); break;
            case 14: ask(of + " read", () -> x.read(), () -> model.read()); break;
            case 15: ask(of + " twice", () -> x.twice(), () -> model.twice()); break;
            case 16: ask(of + " longest", () -> x.longest(m, i), () -> model.longest(m, i)); break;
            case 17: ask(of + " matches", () -> x.matches(i, j), () -> model.matches(i, j)); break;
            case 18: ask(of + " stands", () -> x.stands(m, i, j), () -> model.stands(m, i, j)); break;
            case 19: ask(of + " states", () -> x.states(m), () -> model.states(m)); break;
            case 20: ask(of + " shortest", () -> x.shortest(r), () -> model.shortest(r)); break;
            case 21: ask(of + " idle", () -> x.idle(), () -> model.idle()); break;
            case 22: ask(of + " overlap", () -> x.overlap(r, r2), () -> model.overlap(r, r2)); break;
            case 23: ask(of + " ways", () -> x.ways(i, j), () -> model.ways(i, j)); break;
            case 24: ask(of + " fewest", () -> x.fewest(i, j), () -> model.fewest(i, j)); break;
            case 25: ask(of + " touched", () -> x.touched(q), () -> model.touched(q)); break;
            case 26: ask(of + " same", () -> x.same(m, i, j, k, l), () -> model.same(m, i, j, k, l)); break;
            case 27:
            case 28: ask(of + " becomes", () -> x.becomes(q, s), () -> model.becomes(q, s)); break;
            case 29:
            case 30: ask(of + " comes", () -> x.comes(i, s), () -> model.comes(i, s)); break;
            case 31:
            case 32: ask(of + " goes", () -> x.goes(q), () -> model.goes(q)); break;
            case 33: ask(of + " mends", () -> x.mends(q), () -> model.mends(q)); break;
            case 34: ask(of + " undo", () -> x.undo(), () -> model.undo()); break;
            case 35:
                int many = number(random, 1, 20, isTame);
                ask(of + " years", () -> x.years(wild, many), () -> model.years(wild, many));
                break;
            case 36: ask(of + " keep", () -> x.keep(two) ? 1 : 0, () -> model.keep(two) ? 1 : 0); break;
            case 37:
                if (random.nextInt(4) == 0) {
                    ask(of + " again", () -> x.again(two) ? 1 : 0, () -> model.again(two) ? 1 : 0);
                }
                break;
            default: ask(of + " row", () -> x.row(small), () -> model.row(small)); break;
        }
    }

    private static String randomSigns(Random random, String signs, int many) {
        StringBuilder text = new StringBuilder();
        for (int i = 0; i < many; i++) {
            text.append(signs.charAt(random.nextInt(signs.length())));
        }
        return text.toString();
    }

    private static String randomDay(Random random, String signs) {
        StringBuilder text = new StringBuilder();
        int many = random.nextInt(6);
        for (int i = 0; i < many; i++) {
            char kind = "rid".charAt(random.nextInt(3));
            int place = random.nextInt(random.nextInt(6) == 0 ? 26 : 7);
            text.append(kind).append((char) ('0' + place / 10)).append((char) ('0' + place % 10));
            if (kind != 'd') {
                text.append(signs.charAt(random.nextInt(signs.length())));
            }
        }
        return text.toString();
    }

    private static String randomRules(Random random, String signs) {
        int many = 1 + random.nextInt(random.nextInt(3) == 0 ? 8 : 4);
        int modes = 1 + random.nextInt(4);
        int[] letters = new int[4];
        StringBuilder text = new StringBuilder();
        for (int i = 0; i < many; i++) {
            int mode = random.nextInt(modes);
            int left = 10 - letters[mode];
            if (left == 0) {
                continue;
            }
            int wanted = 1 + random.nextInt(Math.min(left, random.nextInt(3) == 0 ? 10 : 4));
            String rule = mode + ":" + randomWay(random, signs, wanted, 0);
            if (random.nextInt(3) == 0) {
                int digit = random.nextInt(modes);
                rule += new String[] {"<", ">" + digit, "=" + digit}[random.nextInt(3)];
            }
            if (text.length() + rule.length() + 1 > 80) {
                break;
            }
            letters[mode] += wanted;
            text.append(text.length() == 0 ? "" : ";").append(rule);
        }
        return text.length() == 0 ? "0:a" : text.toString();
    }

    /** A WAY of so many LETTERS. */
    private static String randomWay(Random random, String signs, int letters, int depth) {
        StringBuilder way = new StringBuilder();
        int left = letters;
        while (left > 0) {
            if (way.length() > 0 && random.nextInt(4) == 0) {
                way.append('|');
            }
            int here = 1 + random.nextInt(left);
            if (depth < 6 && random.nextInt(3) == 0) {
                way.append('(').append(randomWay(random, signs, here, depth + 1)).append(')');
                left -= here;
            } else {
                way.append(random.nextInt(8) == 0 ? '.' : signs.charAt(random.nextInt(signs.length())));
                left--;
            }
            while (random.nextInt(4) == 0) {
                way.append("*+?".charAt(random.nextInt(3)));
            }
        }
        return way.toString();
    }
}
