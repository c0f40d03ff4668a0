import java.util.ArrayList;
import java.util.HashMap;
import java.util.HashSet;
import java.util.List;
import java.util.Map;
import java.util.NoSuchElementException;
import java.util.Set;
import java.util.TreeMap;
import java.util.TreeSet;

/** The document told once more, in its plainest and slowest form: texts, lists and sets, nothing kept ready. */
final class Model {
    private static final int NONE = -1;

    /** A part of a WAY: a LETTER (with its number), a row of parts, a choice, or something repeated. */
    private static final class Node {
        final char kind;
        final List<Node> parts = new ArrayList<>();
        int letter;
        char sign;

        Node(char kind) {
            this.kind = kind;
        }
    }

    private static final class Rule {
        int mode;
        Node way;
        char act = '-';
        int digit = NONE;
        int letters;
    }

    private record State(String rules, String line) {
    }

    private static final class Token {
        int rule;
        int first;
        int behind;
        int readTo;
        int reach;
        int dead;
        int mode;
        List<Integer> modes;
    }

    private String text = "";
    private State now = new State("", "");
    private final List<State> undo = new ArrayList<>();
    private final State[] kept = new State[2];
    private List<Long> row = new ArrayList<>();

    // what follows from the state
    private List<Rule> rules = new ArrayList<>();
    private List<Token> tokens = new ArrayList<>();

    // ---- texts

    int sign(int v) {
        if (text.length() + 4 > 80) {
            return NONE;
        }
        text += "" + (char) (v >>> 24) + (char) (v >>> 16 & 255) + (char) (v >>> 8 & 255) + (char) (v & 255);
        return text.length();
    }

    boolean end(int n) {
        if (n < 0 || n > text.length()) {
            return false;
        }
        text = text.substring(0, n);
        return true;
    }

    int rules() {
        String told = text;
        text = "";
        if (!told.isEmpty()) {
            for (int p = 0; p < told.length(); p++) {
                if (!canGoOn(told.substring(0, p + 1))) {
                    return -1 - p;
                }
            }
            if (parse(told) == null) {
                return -1 - told.length();
            }
            for (int m = 0; m < 4; m++) {
                int letters = 0;
                for (Rule rule : parse(told)) {
                    letters += rule.mode == m ? rule.letters : 0;
                }
                if (letters > 10) {
                    return -100 - m;
                }
            }
        }
        changeTo(new State(told, now.line));
        return rules.size();
    }

    private static boolean canGoOn(String start) {
        for (String next : new String[] {"", "a", ":a", "0:a", "0"}) {
            String closing = "";
            for (int open = 0; open <= 6; open++) {
                if (parse(start + next + closing) != null) {
                    return true;
                }
                closing += ")";
            }
        }
        return false;
    }

    int line() {
        String told = text;
        text = "";
        for (int p = 0; p < told.length(); p++) {
            if (p == 24 || "abcdefgh".indexOf(told.charAt(p)) < 0) {
                return -1 - p;
            }
        }
        changeTo(new State(now.rules, told));
        return told.length();
    }

    int rule(int k, int what) {
        if (k < 0 || k >= rules.size() || what < 0 || what > 4) {
            throw new NoSuchElementException();
        }
        Rule rule = rules.get(k);
        int[] all = {rule.mode, rule.letters, "-<>=".indexOf(rule.act), rule.digit, matches(k, "") ? 1 : 0};
        return all[what];
    }

    int at(int p) {
        if (p < 0 || p >= now.line.length()) {
            throw new NoSuchElementException();
        }
        return now.line.charAt(p) - 'a';
    }

    int sheet(int kind, int n, int f, int step) {
        if (kind < 0 || kind > 3 || n > 24) {
            return NONE;
        }
        if (kind == 3) {
            set(new State(now.rules, ""));
            return -3;
        }
        if (n < 0) {
            return -2;
        }
        String signs = "";
        for (int i = 0; i < n; i++) {
            int entry = f + i * step;
            long narrow = kind == 0 ? (byte) entry : kind == 1 ? (short) entry : entry;
            signs += (char) ('a' + (narrow % 8 + 8) % 8);
        }
        set(new State(now.rules, signs));
        return n;
    }

    // ---- tokens

    int cut() {
        row = new ArrayList<>();
        for (Token token : tokens) {
            tell(token.behind);
        }
        return tokens.size();
    }

    int token(int k, int what) {
        if (k < 0 || k >= tokens.size() || what < 0 || what > 5) {
            throw new NoSuchElementException();
        }
        Token t = tokens.get(k);
        return new int[] {t.rule, t.first, t.behind, t.reach, t.mode, t.modes.size()}[what];
    }

    int modes(int k) {
        if (k < -1 || k >= tokens.size()) {
            return -2;
        }
        List<Integer> modes = k < 0 ? List.of(0) : tokens.get(k).modes;
        row = new ArrayList<>();
        for (int mode : modes) {
            tell(mode);
        }
        return modes.size();
    }

    int holds(int p) {
        for (int k = 0; k < tokens.size(); k++) {
            if (p >= tokens.get(k).first && p < tokens.get(k).behind) {
                return k;
            }
        }
        return NONE;
    }

    int stuck() {
        row = new ArrayList<>();
        for (Token token : tokens) {
            if (token.rule == NONE) {
                tell(token.first);
                tell(token.dead);
            }
        }
        return row.size() / 2;
    }

    int by(int k) {
        if (k < -1 || k >= rules.size()) {
            return -2;
        }
        row = new ArrayList<>();
        for (int t = 0; t < tokens.size(); t++) {
            if (tokens.get(t).rule == k) {
                tell(t);
            }
        }
        return row.size();
    }

    int like(int i) {
        if (i != 0 && i != 1) {
            return NONE;
        }
        if (kept[i] == null) {
            return -2;
        }
        List<Rule> rulesNow = rules;
        rules = parse(kept[i].rules);
        List<Token> others = cutFrom(now.line, 0, List.of(0));
        rules = rulesNow;
        int alike = 0;
        while (alike < tokens.size() && alike < others.size()
            && tokens.get(alike).rule == others.get(alike).rule
            && tokens.get(alike).behind == others.get(alike).behind) {
            alike++;
        }
        row = new ArrayList<>();
        tell(others.size());
        tell(stuckOf(others));
        return alike;
    }

    int moded(int mode) {
        if (mode < 0 || mode > 3) {
            return NONE;
        }
        List<Token> found = new ArrayList<>();
        int signs = 0;
        for (Token token : tokens) {
            if (token.mode == mode) {
                found.add(token);
                signs += token.behind - token.first;
            }
        }
        row = new ArrayList<>();
        tell(signs);
        tell(stuckOf(found));
        return found.size();
    }

    int readers(int p) {
        if (p < 0 || p >= now.line.length()) {
            return NONE;
        }
        List<Integer> found = new ArrayList<>();
        int having = 0;
        for (int k = 0; k < tokens.size(); k++) {
            if (p >= tokens.get(k).first && p < tokens.get(k).readTo) {
                found.add(k);
                having += holds(p) == k ? 1 : 0;
            }
        }
        row = new ArrayList<>();
        tell(found.get(0));
        tell(having);
        return found.size();
    }

    int read() {
        int signs = 0;
        for (Token token : tokens) {
            signs += token.readTo - token.first;
        }
        int[] memory = withMemory(now.line, tokens);
        row = new ArrayList<>();
        tell(memory[0]);
        tell(memory[1]);
        return signs;
    }

    int twice() {
        Map<String, Integer> times = new HashMap<>();
        for (Token token : tokens) {
            for (int q = token.first + 1; q <= token.readTo; q++) {
                Set<Integer> standing = standing(token.mode, now.line.substring(token.first, q));
                if (!standing.isEmpty()) {
                    times.merge(token.mode + " " + standing + " " + q, 1, Integer::sum);
                }
            }
        }
        int pairs = 0;
        int most = 0;
        for (int often : times.values()) {
            if (often > 1) {
                pairs++;
                most = Math.max(most, often);
            }
        }
        row = new ArrayList<>();
        tell(most);
        return pairs;
    }

    // ---- rules

    int longest(int mode, int p) {
        if (mode < 0 || mode > 3 || p < 0 || p > now.line.length()) {
            return NONE;
        }
        for (int q = now.line.length(); q > p; q--) {
            int winner = winner(mode, now.line.substring(p, q));
            if (winner != NONE) {
                row = new ArrayList<>();
                tell(winner);
                return q - p;
            }
        }
        return -2;
    }

    int matches(int i, int j) {
        if (notStretch(i, j)) {
            return NONE;
        }
        String signs = now.line.substring(i, j);
        int bits = 0;
        for (int k = 0; k < rules.size(); k++) {
            bits += matches(k, signs) ? 1 << k : 0;
        }
        row = new ArrayList<>();
        for (int m = 0; m < 4; m++) {
            tell(winner(m, signs));
        }
        return bits;
    }

    int stands(int mode, int i, int j) {
        if (mode < 0 || mode > 3 || notStretch(i, j) || i == j) {
            return NONE;
        }
        String signs = now.line.substring(i, j);
        int bits = 0;
        for (int s = 0; s < 8; s++) {
            bits += standing(mode, signs + (char) ('a' + s)).isEmpty() ? 0 : 1 << s;
        }
        row = new ArrayList<>();
        tell(bits);
        return standing(mode, signs).size();
    }

    int states(int mode) {
        if (mode < 0 || mode > 3) {
            return NONE;
        }
        List<String> rows = rowsToAll(mode);
        int winning = 0;
        for (String signs : rows) {
            winning += winner(mode, signs) == NONE ? 0 : 1;
        }
        row = new ArrayList<>();
        tell(winning);
        return rows.size();
    }

    int shortest(int k) {
        if (k < 0 || k >= rules.size()) {
            return NONE;
        }
        for (String signs : rowsToAll(rules.get(k).mode)) {
            if (winner(rules.get(k).mode, signs) == k) {
                return tellSigns(signs);
            }
        }
        return -2;
    }

    int idle() {
        int bits = 0;
        int many = 0;
        List<Long> rowNow = row;
        for (int k = 0; k < rules.size(); k++) {
            if (shortest(k) == -2) {
                bits += 1 << k;
                many++;
            }
        }
        row = rowNow;
        row = new ArrayList<>();
        tell(many);
        return bits;
    }

    int overlap(int k, int other) {
        if (k < 0 || k >= rules.size() || other < 0 || other >= rules.size() || k == other) {
            return NONE;
        }
        int mode = rules.get(k).mode;
        if (mode != rules.get(other).mode) {
            return -3;
        }
        for (String signs : rowsToAll(mode)) {
            if (matches(k, signs) && matches(other, signs)) {
                return tellSigns(signs);
            }
        }
        return -2;
    }

    int ways(int i, int j) {
        if (notStretch(i, j)) {
            return NONE;
        }
        long[] cuts = new long[25];
        cuts[i] = 1;
        for (int q = i + 1; q <= j; q++) {
            for (int p = i; p < q; p++) {
                cuts[q] += cuts[p] > 0 && winner(0, now.line.substring(p, q)) != NONE ? cuts[p] : 0;
            }
        }
        List<Integer> best = bestCuts(i, j, new TreeMap<>());
        row = new ArrayList<>();
        tell(best == null ? NONE : best.size());
        return (int) Math.min(cuts[j], 1000000);
    }

    int fewest(int i, int j) {
        if (notStretch(i, j)) {
            return NONE;
        }
        List<Integer> best = bestCuts(i, j, new TreeMap<>());
        if (best == null) {
            return -2;
        }
        row = new ArrayList<>();
        for (int place : best) {
            tell(place);
        }
        return best.size();
    }

    private List<Integer> bestCuts(int p, int j, Map<Integer, List<Integer>> known) {
        if (p == j) {
            return List.of();
        }
        if (known.containsKey(p)) {
            return known.get(p);
        }
        List<Integer> best = null;
        for (int q = p + 1; q <= j; q++) {
            List<Integer> rest = winner(0, now.line.substring(p, q)) == NONE ? null : bestCuts(q, j, known);
            if (rest != null && (best == null || rest.size() + 1 < best.size())) {
                best = new ArrayList<>();
                best.add(q);
                best.addAll(rest);
            }
        }
        known.put(p, best);
        return best;
    }

    int touched(int q) {
        if (q < 0 || q >= now.line.length()) {
            return NONE;
        }
        int k = keptAhead(tokens, q);
        row = new ArrayList<>();
        tell(k);
        tell(tokens.get(k).first);
        return tokens.size() - k;
    }

    int same(int mode, int i, int j, int k, int l) {
        if (mode < 0 || mode > 3 || notStretch(i, j) || i == j || notStretch(k, l) || k == l) {
            return NONE;
        }
        Set<Integer> one = standing(mode, now.line.substring(i, j));
        Set<Integer> other = standing(mode, now.line.substring(k, l));
        Set<Integer> both = new TreeSet<>(one);
        both.retainAll(other);
        row = new ArrayList<>();
        tell(both.size());
        return one.equals(other) ? 1 : 0;
    }

    // ---- changes

    int becomes(int q, int s) {
        return change('r', q, s, true);
    }

    int comes(int q, int s) {
        return change('i', q, s, true);
    }

    int goes(int q) {
        return change('d', q, 0, true);
    }

    private int change(char kind, int q, int s, boolean canBeUndone) {
        String changed = changed(now.line, kind, q, s);
        int n = now.line.length();
        if (changed == null) {
            return kind == 'r' && q >= 0 && q < n && s >= 0 && s < 8 ? -2
                : kind == 'i' && n == 24 && q >= 0 && q <= n && s >= 0 && s < 8 ? -3 : NONE;
        }
        List<Token> old = tokens;
        if (canBeUndone) {
            changeTo(new State(now.rules, changed));
        } else {
            set(new State(now.rules, changed));
        }
        int keptOnes = keptAhead(old, q);
        int p = keptOnes == 0 ? 0 : old.get(keptOnes - 1).behind;
        List<Integer> modes = keptOnes == 0 ? List.of(0) : old.get(keptOnes - 1).modes;
        int moved = kind == 'i' ? 1 : kind == 'd' ? -1 : 0;
        int anew = 0;
        int met = -1;
        while (p < changed.length() && met < 0) {
            Token token = cutOne(changed, p, modes);
            anew++;
            p = token.behind;
            modes = token.modes;
            for (int k = 0; k < old.size(); k++) {
                boolean isBehind = kind == 'd' ? q <= p : q < p;
                if (old.get(k).behind + moved == p && isBehind && old.get(k).modes.equals(modes)) {
                    met = old.size() - k - 1;
                }
            }
        }
        row = new ArrayList<>();
        tell(keptOnes);
        tell(anew);
        tell(Math.max(met, 0));
        return tokens.size();
    }

    /** The LINE with a CHANGE; null if it is refused. */
    private static String changed(String line, char kind, int q, int s) {
        int n = line.length();
        if (q < 0 || q > n || s < 0 || s > 7 || (kind != 'i' && q == n) || (kind == 'i' && n == 24)) {
            return null;
        }
        String sign = kind == 'd' ? "" : "" + (char) ('a' + s);
        String changed = line.substring(0, q) + sign + line.substring(kind == 'i' ? q : q + 1);
        return changed.equals(line) && kind == 'r' ? null : changed;
    }

    int mends(int q) {
        if (q < 0 || q >= now.line.length()) {
            return NONE;
        }
        int best = NONE;
        int fewest = 99;
        for (int s = 7; s >= 0; s--) {
            String changed = now.line.substring(0, q) + (char) ('a' + s) + now.line.substring(q + 1);
            int stuckOnes = stuckOf(cutFrom(changed, 0, List.of(0)));
            if (stuckOnes <= fewest) {
                fewest = stuckOnes;
                best = s;
            }
        }
        row = new ArrayList<>();
        tell(fewest);
        return best;
    }

    int day() {
        String told = text;
        text = "";
        for (int p = 0; p <= told.length(); p++) {
            String start = told.substring(0, p);
            boolean canGoOn = false;
            for (String next : new String[] {"", "00", "0", "00a", "0a", "a"}) {
                canGoOn |= (start + next).matches("([ri][0-9][0-9][a-h]|d[0-9][0-9])*");
            }
            if (!canGoOn) {
                return -p;
            }
        }
        if (!told.matches("([ri][0-9][0-9][a-h]|d[0-9][0-9])*")) {
            return -1 - told.length();
        }
        State ahead = now;
        int done = 0;
        boolean isBarred = false;
        for (int p = 0; p < told.length() && !isBarred;) {
            char kind = told.charAt(p);
            int q = Integer.parseInt(told.substring(p + 1, p + 3));
            isBarred = change(kind, q, kind == 'd' ? 0 : told.charAt(p + 3) - 'a', false) < 0;
            done += isBarred ? 0 : 1;
            p += kind == 'd' ? 3 : 4;
        }
        if (done > 0) {
            remember(ahead);
        }
        row = new ArrayList<>();
        tell(isBarred ? 1 : 0);
        tell(tokens.size());
        return done;
    }

    int undo() {
        if (undo.isEmpty()) {
            return NONE;
        }
        set(undo.remove(undo.size() - 1));
        return undo.size();
    }

    int years(int seed, int n) {
        if (n < 1 || n > 20) {
            return NONE;
        }
        int[] r = {seed};
        String line = now.line;
        for (int i = 0; i < n; i++) {
            char kind = "rid".charAt(draw(r, 3));
            int q = draw(r, 24);
            int s = kind == 'd' ? 0 : draw(r, 8);
            String changed = changed(line, kind, q, s);
            line = changed == null ? line : changed;
        }
        List<Token> then = cutFrom(line, 0, List.of(0));
        row = new ArrayList<>();
        tell(stuckOf(then));
        tell(line.length());
        tell(withMemory(line, then)[0]);
        return then.size();
    }

    private static int draw(int[] r, int n) {
        r[0] = (int) (r[0] * 1103515245L + 12345L);
        return (int) ((r[0] & 0xFFFFFFFFL) / 65536 % n);
    }

    // ---- kept

    boolean keep(int i) {
        if (i != 0 && i != 1) {
            return false;
        }
        kept[i] = now;
        return true;
    }

    boolean again(int i) {
        if (i < 0 || i > 1 || kept[i] == null) {
            return false;
        }
        set(kept[i]);
        undo.clear();
        return true;
    }

    int count(int what) {
        int most = 1;
        for (Token token : tokens) {
            most = Math.max(most, token.modes.size());
        }
        int letters = 0;
        int modes = 0;
        for (Rule rule : rules) {
            letters += rule.letters;
            modes |= 1 << rule.mode;
        }
        int[] all = {rules.size(), now.line.length(), tokens.size(), undo.size(), row.size(), text.length(), most,
            letters, modes};
        return what < 0 || what >= all.length ? NONE : all[what];
    }

    long row(int i) {
        if (i < 0 || i >= row.size()) {
            throw new NoSuchElementException();
        }
        return row.get(i);
    }

    // ---- the state

    private void tell(long number) {
        row.add(number);
    }

    private int tellSigns(String signs) {
        row = new ArrayList<>();
        for (char c : signs.toCharArray()) {
            tell(c - 'a');
        }
        return signs.length();
    }

    private void changeTo(State next) {
        remember(now);
        set(next);
    }

    private void remember(State state) {
        undo.add(state);
        if (undo.size() > 10) {
            undo.remove(0);
        }
    }

    private void set(State next) {
        now = next;
        rules = parse(now.rules);
        tokens = cutFrom(now.line, 0, List.of(0));
    }

    private boolean notStretch(int i, int j) {
        return i < 0 || i > j || j > now.line.length();
    }

    // ---- RULES

    /** The RULES of a text; null if it tells none (too many LETTERS are not asked for here). */
    private static List<Rule> parse(String told) {
        List<Rule> rules = new ArrayList<>();
        if (told.isEmpty()) {
            return rules;
        }
        String[] texts = told.split(";", -1);
        if (texts.length > 8) {
            return null;
        }
        int[] letters = new int[4];
        for (String text : texts) {
            Rule rule = parseRule(text, letters);
            if (rule == null) {
                return null;
            }
            rules.add(rule);
        }
        return rules;
    }

    private static Rule parseRule(String text, int[] letters) {
        if (!text.matches("[0-3]:[^<>=]*(<|>[0-3]|=[0-3])?")) {
            return null;
        }
        Rule rule = new Rule();
        rule.mode = text.charAt(0) - '0';
        int behindWay = text.length();
        if (text.endsWith("<")) {
            behindWay -= 1;
            rule.act = '<';
        } else if (text.matches(".*[>=][0-3]")) {
            behindWay -= 2;
            rule.act = text.charAt(behindWay);
            rule.digit = text.charAt(behindWay + 1) - '0';
        }
        int before = letters[rule.mode];
        rule.way = parseWay(text.substring(2, behindWay), rule.mode, letters, 0);
        rule.letters = letters[rule.mode] - before;
        return rule.way == null ? null : rule;
    }

    private static Node parseWay(String text, int mode, int[] letters, int depth) {
        if (depth > 6) {
            return null;
        }
        Node choice = new Node('|');
        Node chain = new Node('.');
        for (int p = 0; p < text.length(); p++) {
            char c = text.charAt(p);
            if (c == '|') {
                if (chain.parts.isEmpty()) {
                    return null;
                }
                choice.parts.add(chain);
                chain = new Node('.');
                continue;
            }
            Node part;
            if (c == '.' || (c >= 'a' && c <= 'h')) {
                part = new Node('a');
                part.sign = c;
                part.letter = mode * 100 + letters[mode]++;
            } else if (c == '(') {
                int close = closing(text, p);
                part = close < 0 ? null : parseWay(text.substring(p + 1, close), mode, letters, depth + 1);
                p = close;
            } else {
                return null;
            }
            if (part == null) {
                return null;
            }
            while (p + 1 < text.length() && "*+?".indexOf(text.charAt(p + 1)) >= 0) {
                p++;
                Node repeated = new Node(text.charAt(p));
                repeated.parts.add(part);
                part = repeated;
            }
            chain.parts.add(part);
        }
        if (chain.parts.isEmpty()) {
            return null;
        }
        choice.parts.add(chain);
        return choice;
    }

    private static int closing(String text, int open) {
        int depth = 0;
        for (int p = open; p < text.length(); p++) {
            depth += text.charAt(p) == '(' ? 1 : text.charAt(p) == ')' ? -1 : 0;
            if (depth == 0) {
                return p;
            }
        }
        return -1;
    }

    // ---- what RULES match

    /** Places that a node can end at, begun at any of some; standing takes the LETTERS that take the last sign. */
    private static Set<Integer> ends(Node node, Set<Integer> starts, String signs, Set<Integer> standing) {
        Set<Integer> ends = new TreeSet<>();
        switch (node.kind) {
            case 'a':
                for (int p : starts) {
                    if (p < signs.length() && (node.sign == '.' || node.sign == signs.charAt(p))) {
                        ends.add(p + 1);
                        if (p + 1 == signs.length()) {
                            standing.add(node.letter);
                        }
                    }
                }
                return ends;
            case '.':
                ends.addAll(starts);
                for (Node part : node.parts) {
                    ends = ends(part, ends, signs, standing);
                }
                return ends;
            case '|':
                for (Node part : node.parts) {
                    ends.addAll(ends(part, starts, signs, standing));
                }
                return ends;
            default:
                Set<Integer> next = starts;
                do {
                    next = ends(node.parts.get(0), next, signs, standing);
                    next.removeAll(ends);
                    ends.addAll(next);
                } while (node.kind != '?' && !next.isEmpty());
                if (node.kind != '+') {
                    ends.addAll(starts);
                }
                return ends;
        }
    }

    private boolean matches(int k, String signs) {
        Set<Integer> start = new TreeSet<>(List.of(0));
        return ends(rules.get(k).way, start, signs, new HashSet<>()).contains(signs.length());
    }

    private int winner(int mode, String signs) {
        for (int k = 0; k < rules.size(); k++) {
            if (rules.get(k).mode == mode && matches(k, signs)) {
                return k;
            }
        }
        return NONE;
    }

    private Set<Integer> standing(int mode, String signs) {
        Set<Integer> standing = new TreeSet<>();
        for (Rule rule : rules) {
            if (rule.mode == mode) {
                ends(rule.way, new TreeSet<>(List.of(0)), signs, standing);
            }
        }
        return standing;
    }

    /** A row to each STANDING, shorter rows first, equally long ones by the alphabet. */
    private List<String> rowsToAll(int mode) {
        List<String> rows = new ArrayList<>();
        Set<Set<Integer>> known = new HashSet<>();
        List<String> last = List.of("");
        while (!last.isEmpty()) {
            List<String> next = new ArrayList<>();
            for (String signs : last) {
                for (char c = 'a'; c <= 'h'; c++) {
                    Set<Integer> standing = standing(mode, signs + c);
                    if (!standing.isEmpty() && known.add(standing)) {
                        next.add(signs + c);
                    }
                }
            }
            rows.addAll(next);
            last = next;
        }
        return rows;
    }

    // ---- CUTTING

    private List<Token> cutFrom(String line, int from, List<Integer> modesThere) {
        List<Token> cut = new ArrayList<>();
        int p = from;
        List<Integer> modes = modesThere;
        while (p < line.length()) {
            Token token = cutOne(line, p, modes);
            cut.add(token);
            p = token.behind;
            modes = token.modes;
        }
        return cut;
    }

    private Token cutOne(String line, int p, List<Integer> modesThere) {
        Token token = new Token();
        token.first = p;
        token.mode = modesThere.get(modesThere.size() - 1);
        token.rule = NONE;
        token.behind = p + 1;
        token.dead = NONE;
        token.readTo = p;
        while (token.readTo < line.length() && token.dead == NONE) {
            token.readTo++;
            String signs = line.substring(p, token.readTo);
            if (standing(token.mode, signs).isEmpty()) {
                token.dead = token.readTo - 1;
            }
            int winner = winner(token.mode, signs);
            if (winner != NONE) {
                token.rule = winner;
                token.behind = token.readTo;
            }
        }
        token.reach = token.dead == NONE ? line.length() + 1 : token.readTo;
        token.modes = new ArrayList<>(modesThere);
        if (token.rule != NONE) {
            act(rules.get(token.rule), token.modes);
        }
        return token;
    }

    private static void act(Rule rule, List<Integer> modes) {
        if (rule.act == '<' && modes.size() > 1) {
            modes.remove(modes.size() - 1);
        }
        if (rule.act == '=') {
            modes.set(modes.size() - 1, rule.digit);
        }
        if (rule.act == '>') {
            modes.add(rule.digit);
            if (modes.size() == 6) {
                modes.remove(0);
            }
        }
    }

    private static int keptAhead(List<Token> old, int q) {
        int k = 0;
        while (k < old.size() && old.get(k).reach <= q) {
            k++;
        }
        return k;
    }

    private static int stuckOf(List<Token> some) {
        int found = 0;
        for (Token token : some) {
            found += token.rule == NONE ? 1 : 0;
        }
        return found;
    }

    /** Signs READ WITH MEMORY, and how many pairs are REMEMBERED then. */
    private int[] withMemory(String line, List<Token> some) {
        Set<String> remembered = new HashSet<>();
        int signs = 0;
        for (Token token : some) {
            List<String> failed = new ArrayList<>();
            int lastWon = token.first;
            for (int q = token.first + 1; q <= line.length(); q++) {
                signs++;
                String soFar = line.substring(token.first, q);
                Set<Integer> standing = standing(token.mode, soFar);
                String pair = token.mode + " " + standing + " " + q;
                if (standing.isEmpty() || remembered.contains(pair)) {
                    break;
                }
                if (winner(token.mode, soFar) == NONE) {
                    failed.add(pair);
                } else {
                    failed.clear();
                    lastWon = q;
                }
            }
            if (token.rule == NONE ? lastWon != token.first : lastWon != token.behind) {
                throw new IllegalStateException("another TOKEN with MEMORY");
            }
            remembered.addAll(failed);
        }
        return new int[] {signs, remembered.size()};
    }
}
