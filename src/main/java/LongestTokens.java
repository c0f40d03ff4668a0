import java.util.Arrays;
import java.util.NoSuchElementException;

/** A LINE cut into TOKENS, each as long as can be, by RULES that are told as a text. */
public final class LongestTokens {
    public static final int NONE = -1;

    private static final int NOTHING_SUCH = -2;
    private static final int BARRED = -3;
    private static final int TOO_MANY_LETTERS = -100;

    private static final int MODE_KINDS = 4;
    private static final int MODES_AT_MOST = 5;
    private static final int RULES_AT_MOST = 8;
    private static final int LETTERS_AT_MOST = 10;
    private static final int LETTER_SETS = 1 << LETTERS_AT_MOST;
    private static final int OPEN_AT_MOST = 6;
    private static final int SIGN_KINDS = 8;
    private static final int LINE_AT_MOST = 24;
    private static final int TEXT_AT_MOST = 80;
    private static final int UNDO_AT_MOST = 10;
    private static final int KEPT_AT_MOST = 2;
    private static final int WAYS_AT_MOST = 1000000;
    private static final int YEARS_AT_MOST = 20;

    private static final int ACT_NONE = 0;
    private static final int ACT_GOES = 1;
    private static final int ACT_ON_TOP = 2;
    private static final int ACT_IN_PLACE = 3;

    private static final int BECOMES = 0;
    private static final int COMES = 1;
    private static final int GOES = 2;

    private static final int SHEET_OF_BYTES = 0;
    private static final int SHEET_OF_SHORTS = 1;
    private static final int SHEET_MISSING = 3;

    private final Text text = new Text();
    private final Grammar grammar = new Grammar();
    private final Builder builder = new Builder();
    private final Book now = new Book();
    private final Rules table = new Rules();
    private Cutting cutting = new Cutting();
    private final Rules otherTable = new Rules();
    private final Line otherLine = new Line();
    private Cutting otherCutting = new Cutting();
    private final Pairs pairs = new Pairs();
    private final Search search = new Search();
    private final Splits splits = new Splits();
    private final History history = new History();
    private final Book[] kept = new Book[KEPT_AT_MOST];
    private final long[] numbers = new long[LETTER_SETS];
    private int told = 0;

    public LongestTokens() {
    }

    // ---- texts

    public int sign(int v) {
        return text.addFour(v) ? text.length : NONE;
    }

    public boolean end(int n) {
        return text.shorten(n);
    }

    public int rules() {
        int fault = grammar.faultOfRules(text);
        if (fault == 0) {
            fault = grammar.faultOfLetters(text);
        }
        if (fault == 0) {
            history.push(now);
            now.takeRules(text);
            refresh();
        }
        text.empty();
        return fault < 0 ? fault : table.total;
    }

    public int line() {
        int fault = grammar.faultOfLine(text);
        if (fault == 0) {
            history.push(now);
            now.line.take(text);
            recut();
        }
        text.empty();
        return fault < 0 ? fault : now.line.length;
    }

    public int rule(int k, int what) throws NoSuchElementException {
        if (k < 0 || k >= table.total) {
            throw new NoSuchElementException();
        }
        switch (what) {
            case 0:
                return table.mode[k];
            case 1:
                return table.letters[k];
            case 2:
                return table.act[k];
            case 3:
                return table.digit[k];
            case 4:
                return table.empty[k] ? 1 : 0;
            default:
                throw new NoSuchElementException();
        }
    }

    public int at(int p) throws NoSuchElementException {
        if (!now.line.has(p)) {
            throw new NoSuchElementException();
        }
        return now.line.get(p);
    }

    public int sheet(int kind, int n, int f, int step) {
        if (kind < SHEET_OF_BYTES || kind > SHEET_MISSING || n > LINE_AT_MOST) {
            return NONE;
        }
        if (kind == SHEET_MISSING) {
            now.line.length = 0;
            recut();
            return BARRED;
        }
        if (n < 0) {
            return NOTHING_SUCH;
        }
        int entry = f;
        now.line.length = 0;
        for (int p = 0; p < n; p++) {
            now.line.insert(p, Math.floorMod(narrowed(kind, entry), SIGN_KINDS));
            entry += step;
        }
        recut();
        return n;
    }

    // ---- tokens

    public int cut() {
        told = 0;
        for (int k = 0; k < cutting.size; k++) {
            tell(cutting.behind[k]);
        }
        return cutting.size;
    }

    public int token(int k, int what) throws NoSuchElementException {
        if (k < 0 || k >= cutting.size) {
            throw new NoSuchElementException();
        }
        switch (what) {
            case 0:
                return cutting.rule[k];
            case 1:
                return cutting.first[k];
            case 2:
                return cutting.behind[k];
            case 3:
                return cutting.reach(k);
            case 4:
                return cutting.mode[k];
            case 5:
                return cutting.depth[k];
            default:
                throw new NoSuchElementException();
        }
    }

    public int modes(int k) {
        if (k < NONE || k >= cutting.size) {
            return NOTHING_SUCH;
        }
        int depth = k == NONE ? 1 : cutting.depth[k];
        int pile = k == NONE ? 0 : cutting.pile[k];
        told = 0;
        for (int above = depth - 1; above >= 0; above--) {
            tell((pile >> (2 * above)) & 3);
        }
        return depth;
    }

    public int holds(int p) {
        return cutting.holder(p);
    }

    public int stuck() {
        told = 0;
        for (int k = 0; k < cutting.size; k++) {
            if (cutting.rule[k] == NONE) {
                tell(cutting.first[k]);
                tell(cutting.dead[k]);
            }
        }
        return cutting.stuckTokens();
    }

    public int by(int k) {
        if (k < NONE || k >= table.total) {
            return NOTHING_SUCH;
        }
        told = 0;
        for (int t = 0; t < cutting.size; t++) {
            if (cutting.rule[t] == k) {
                tell(t);
            }
        }
        return told;
    }

    public int like(int i) {
        if (i < 0 || i >= KEPT_AT_MOST) {
            return NONE;
        }
        Book book = kept[i];
        if (book == null) {
            return NOTHING_SUCH;
        }
        builder.build(otherTable, book);
        otherCutting.make(otherTable, now.line);
        told = 0;
        tell(otherCutting.size);
        tell(otherCutting.stuckTokens());
        return cutting.alike(otherCutting);
    }

    public int moded(int mode) {
        if (!isMode(mode)) {
            return NONE;
        }
        int found = 0;
        int signs = 0;
        int stuckOnes = 0;
        for (int k = 0; k < cutting.size; k++) {
            if (cutting.mode[k] == mode) {
                found++;
                signs += cutting.behind[k] - cutting.first[k];
                stuckOnes += cutting.rule[k] == NONE ? 1 : 0;
            }
        }
        told = 0;
        tell(signs);
        tell(stuckOnes);
        return found;
    }

    public int readers(int p) {
        if (!now.line.has(p)) {
            return NONE;
        }
        int found = 0;
        int firstOne = NONE;
        int having = 0;
        for (int k = 0; k < cutting.size; k++) {
            if (cutting.first[k] <= p && p < cutting.readTo[k]) {
                found++;
                firstOne = firstOne == NONE ? k : firstOne;
                having += p < cutting.behind[k] ? 1 : 0;
            }
        }
        told = 0;
        tell(firstOne);
        tell(having);
        return found;
    }

    public int read() {
        pairs.remember(table, now.line, cutting);
        told = 0;
        tell(pairs.signsRead);
        tell(pairs.total);
        return cutting.signsRead();
    }

    public int twice() {
        pairs.walk(table, now.line, cutting);
        told = 0;
        int most = pairs.mostTimes();
        tell(most > 1 ? most : 0);
        return pairs.repeated();
    }

    // ---- rules

    public int longest(int mode, int p) {
        if (!isMode(mode) || p < 0 || p > now.line.length) {
            return NONE;
        }
        otherCutting.readFrom(table, now.line, mode, p);
        if (otherCutting.foundRule == NONE) {
            return NOTHING_SUCH;
        }
        told = 0;
        tell(otherCutting.foundRule);
        return otherCutting.foundBehind - p;
    }

    public int matches(int i, int j) {
        if (!isStretch(i, j)) {
            return NONE;
        }
        int bits = 0;
        told = 0;
        for (int m = 0; m < MODE_KINDS; m++) {
            int standing = table.standing(m, now.line, i, j);
            int found = i == j ? table.matchingNothing(m) : table.matching(m, standing);
            bits |= found;
            tell(firstOf(found));
        }
        return bits;
    }

    public int stands(int mode, int i, int j) {
        if (!isMode(mode) || !isStretch(i, j) || i == j) {
            return NONE;
        }
        int standing = table.standing(mode, now.line, i, j);
        told = 0;
        tell(table.signsTakenBy(mode, table.after(mode, standing)));
        return Integer.bitCount(standing);
    }

    public int states(int mode) {
        if (!isMode(mode)) {
            return NONE;
        }
        search.explore(table, mode);
        int winning = 0;
        for (int h = 0; h < search.size; h++) {
            winning += table.winner(mode, search.queue[h]) == NONE ? 0 : 1;
        }
        told = 0;
        tell(winning);
        return search.size;
    }

    public int shortest(int k) {
        if (k < 0 || k >= table.total) {
            return NONE;
        }
        int mode = table.mode[k];
        search.explore(table, mode);
        for (int h = 0; h < search.size; h++) {
            if (table.winner(mode, search.queue[h]) == k) {
                return tellRowTo(search.queue[h]);
            }
        }
        return NOTHING_SUCH;
    }

    public int idle() {
        int winning = 0;
        for (int m = 0; m < MODE_KINDS; m++) {
            search.explore(table, m);
            for (int h = 0; h < search.size; h++) {
                int k = table.winner(m, search.queue[h]);
                winning |= k == NONE ? 0 : 1 << k;
            }
        }
        int idleOnes = ((1 << table.total) - 1) & ~winning;
        told = 0;
        tell(Integer.bitCount(idleOnes));
        return idleOnes;
    }

    public int overlap(int k, int other) {
        if (k < 0 || k >= table.total || other < 0 || other >= table.total || k == other) {
            return NONE;
        }
        if (table.mode[k] != table.mode[other]) {
            return BARRED;
        }
        search.explore(table, table.mode[k]);
        for (int h = 0; h < search.size; h++) {
            int standing = search.queue[h];
            if ((table.last[k] & standing) != 0 && (table.last[other] & standing) != 0) {
                return tellRowTo(standing);
            }
        }
        return NOTHING_SUCH;
    }

    public int ways(int i, int j) {
        if (!isStretch(i, j)) {
            return NONE;
        }
        splits.make(table, now.line, i, j);
        told = 0;
        tell(splits.rows[i]);
        return Math.min(splits.cuts[i], WAYS_AT_MOST);
    }

    public int fewest(int i, int j) {
        if (!isStretch(i, j)) {
            return NONE;
        }
        splits.make(table, now.line, i, j);
        if (splits.rows[i] == NONE) {
            return NOTHING_SUCH;
        }
        told = 0;
        int p = i;
        for (int q = i + 1; q <= j; q++) {
            if (splits.leads(p, q)) {
                tell(q);
                p = q;
            }
        }
        return splits.rows[i];
    }

    public int touched(int q) {
        if (!now.line.has(q)) {
            return NONE;
        }
        int k = cutting.aheadOf(q);
        told = 0;
        tell(k);
        tell(k < cutting.size ? cutting.first[k] : now.line.length);
        return cutting.size - k;
    }

    public int same(int mode, int i, int j, int k, int l) {
        if (!isMode(mode) || !isStretch(i, j) || i == j || !isStretch(k, l) || k == l) {
            return NONE;
        }
        int one = table.standing(mode, now.line, i, j);
        int other = table.standing(mode, now.line, k, l);
        told = 0;
        tell(Integer.bitCount(one & other));
        return one == other ? 1 : 0;
    }

    // ---- changes

    public int becomes(int q, int s) {
        return change(BECOMES, q, s);
    }

    public int comes(int q, int s) {
        return change(COMES, q, s);
    }

    public int goes(int q) {
        return change(GOES, q, 0);
    }

    public int mends(int q) {
        if (!now.line.has(q)) {
            return NONE;
        }
        int best = 0;
        int fewestStuck = LINE_AT_MOST + 1;
        otherLine.copy(now.line);
        for (int s = 0; s < SIGN_KINDS; s++) {
            otherLine.put(q, s);
            otherCutting.make(table, otherLine);
            int stuckOnes = otherCutting.stuckTokens();
            if (stuckOnes < fewestStuck) {
                best = s;
                fewestStuck = stuckOnes;
            }
        }
        told = 0;
        tell(fewestStuck);
        return best;
    }

    public int day() {
        int fault = grammar.faultOfDay(text);
        int done = fault < 0 ? fault : changeByText();
        text.empty();
        return done;
    }

    public int undo() {
        if (!history.pop(now)) {
            return NONE;
        }
        refresh();
        return history.size;
    }

    public int years(int seed, int n) {
        if (n < 1 || n > YEARS_AT_MOST) {
            return NONE;
        }
        otherLine.copy(now.line);
        int r = seed;
        for (int year = 0; year < n; year++) {
            r = nextOf(r);
            int kind = drawn(r, 3);
            r = nextOf(r);
            int q = drawn(r, LINE_AT_MOST);
            int s = 0;
            if (kind != GOES) {
                r = nextOf(r);
                s = drawn(r, SIGN_KINDS);
            }
            otherLine.change(kind, q, s);
        }
        otherCutting.make(table, otherLine);
        pairs.remember(table, otherLine, otherCutting);
        told = 0;
        tell(otherCutting.stuckTokens());
        tell(otherLine.length);
        tell(pairs.signsRead);
        return otherCutting.size;
    }

    // ---- kept

    public boolean keep(int i) {
        if (i < 0 || i >= KEPT_AT_MOST) {
            return false;
        }
        Book book = kept[i];
        if (book == null) {
            book = new Book();
            kept[i] = book;
        }
        book.copy(now);
        return true;
    }

    public boolean again(int i) {
        if (i < 0 || i >= KEPT_AT_MOST) {
            return false;
        }
        Book book = kept[i];
        if (book == null) {
            return false;
        }
        now.copy(book);
        history.forget();
        refresh();
        return true;
    }

    public int count(int what) {
        switch (what) {
            case 0:
                return table.total;
            case 1:
                return now.line.length;
            case 2:
                return cutting.size;
            case 3:
                return history.size;
            case 4:
                return told;
            case 5:
                return text.length;
            case 6:
                return cutting.most;
            case 7:
                return table.lettersOfAll();
            case 8:
                return table.modesWithRules();
            default:
                return NONE;
        }
    }

    public long row(int i) throws NoSuchElementException {
        if (i < 0 || i >= told || i >= numbers.length) {
            throw new NoSuchElementException();
        }
        return numbers[i];
    }

    // ---- behind the face

    private void tell(long number) {
        if (told >= 0 && told < numbers.length) {
            numbers[told] = number;
            told++;
        }
    }

    private int tellRowTo(int standing) {
        int signs = search.trace(standing);
        told = 0;
        for (int p = signs - 1; p >= 0; p--) {
            tell(search.path[p]);
        }
        return signs;
    }

    private void refresh() {
        builder.build(table, now);
        recut();
    }

    private void recut() {
        cutting.make(table, now.line);
    }

    private boolean isStretch(int i, int j) {
        return i >= 0 && i <= j && j <= now.line.length;
    }

    private int change(int kind, int q, int s) {
        int refusal = now.line.refusal(kind, q, s);
        if (refusal < 0) {
            return refusal;
        }
        history.push(now);
        Cutting old = cutting;
        cutting = otherCutting;
        otherCutting = old;
        now.line.change(kind, q, s);
        recut();
        tellChange(kind, q);
        return cutting.size;
    }

    /** The TOKENS were all cut again, but those that are KEPT and MET are the old ones: here they are told apart. */
    private void tellChange(int kind, int q) {
        Cutting old = otherCutting;
        int moved = kind == COMES ? 1 : kind == GOES ? -1 : 0;
        int keptOnes = old.aheadOf(q);
        int anew = 0;
        int met = 0;
        boolean isMet = false;
        for (int k = keptOnes; k < cutting.size && !isMet; k++) {
            anew++;
            int place = cutting.behind[k];
            int oldOne = old.endingAt(place - moved);
            boolean isBehindChange = q < place || (kind == GOES && q == place);
            if (oldOne != NONE && isBehindChange && cutting.hasModesOf(k, old, oldOne)) {
                isMet = true;
                met = old.size - oldOne - 1;
            }
        }
        told = 0;
        tell(keptOnes);
        tell(anew);
        tell(met);
    }

    private int changeByText() {
        int done = 0;
        boolean isBarred = false;
        int p = 0;
        for (int step = 0; step < TEXT_AT_MOST && p < text.length && !isBarred; step++) {
            int kind = Grammar.kindOfChange(text.get(p));
            int q = (text.get(p + 1) - '0') * 10 + (text.get(p + 2) - '0');
            int s = kind == GOES ? 0 : text.get(p + 3) - 'a';
            p += kind == GOES ? 3 : 4;
            isBarred = now.line.refusal(kind, q, s) < 0;
            if (!isBarred) {
                // A day is undone as one, so just its first CHANGE is put into the history.
                if (done == 0) {
                    history.push(now);
                }
                now.line.change(kind, q, s);
                done++;
            }
        }
        recut();
        told = 0;
        tell(isBarred ? 1 : 0);
        tell(cutting.size);
        return done;
    }

    private static boolean isMode(int mode) {
        return mode >= 0 && mode < MODE_KINDS;
    }

    private static int narrowed(int kind, int entry) {
        if (kind == SHEET_OF_BYTES) {
            return (byte) entry;
        }
        return kind == SHEET_OF_SHORTS ? (short) entry : entry;
    }

    private static int firstOf(int bits) {
        for (int k = 0; k < RULES_AT_MOST; k++) {
            if ((bits >> k & 1) != 0) {
                return k;
            }
        }
        return NONE;
    }

    private static int nextOf(int r) {
        return r * 1103515245 + 12345;
    }

    private static int drawn(int r, int n) {
        return n > 0 ? (r >>> 16) % n : 0;
    }

    /** THE TEXT: signs that wait for a call that reads them. */
    private static final class Text {
        private final int[] signs = new int[TEXT_AT_MOST];
        private int length = 0;

        boolean addFour(int v) {
            if (length < 0 || length > TEXT_AT_MOST - 4) {
                return false;
            }
            for (int shift = 24; shift >= 0; shift -= 8) {
                signs[length] = (v >>> shift) & 255;
                length++;
            }
            return true;
        }

        boolean shorten(int n) {
            if (n < 0 || n > length) {
                return false;
            }
            length = n;
            return true;
        }

        void empty() {
            length = 0;
        }

        int get(int p) {
            return p >= 0 && p < length && p < TEXT_AT_MOST ? signs[p] : NONE;
        }
    }

    /** Which sign may stand where; every fault is 0 (none) or the answer below 0 that tells of it. */
    private static final class Grammar {
        private static final int WRONG = -1;
        private static final int MODE_DIGIT = 0;
        private static final int COLON = 1;
        private static final int PART = 2;
        private static final int BEHIND_PART = 3;
        private static final int ACT_DIGIT = 4;
        private static final int BEHIND_ACT = 5;

        private int open = 0;
        private int ruleNumber = 0;

        int faultOfRules(Text text) {
            open = 0;
            ruleNumber = 0;
            int due = MODE_DIGIT;
            for (int p = 0; p < text.length; p++) {
                due = dueBehind(due, text.get(p));
                if (due == WRONG) {
                    return -1 - p;
                }
            }
            boolean mayEnd = text.length == 0 || due == BEHIND_ACT || (due == BEHIND_PART && open == 0);
            return mayEnd ? 0 : -1 - text.length;
        }

        int faultOfLetters(Text text) {
            for (int m = 0; m < MODE_KINDS; m++) {
                if (lettersOfMode(text, m) > LETTERS_AT_MOST) {
                    return TOO_MANY_LETTERS - m;
                }
            }
            return 0;
        }

        int faultOfLine(Text text) {
            for (int p = 0; p < text.length; p++) {
                if (p >= LINE_AT_MOST || !isSign(text.get(p))) {
                    return -1 - p;
                }
            }
            return 0;
        }

        int faultOfDay(Text text) {
            int kind = NONE;
            int inChange = 0;
            for (int p = 0; p < text.length; p++) {
                int c = text.get(p);
                if (inChange == 0) {
                    kind = kindOfChange(c);
                }
                boolean mayStand = inChange == 0 ? kind != NONE
                    : inChange < 3 ? isDigit(c) : isSign(c);
                if (!mayStand) {
                    return -1 - p;
                }
                boolean isLast = inChange == 3 || (inChange == 2 && kind == GOES);
                inChange = isLast ? 0 : inChange + 1;
            }
            return inChange == 0 ? 0 : -1 - text.length;
        }

        static int kindOfChange(int c) {
            if (c == 'r') {
                return BECOMES;
            }
            if (c == 'i') {
                return COMES;
            }
            return c == 'd' ? GOES : NONE;
        }

        static boolean isLetter(int c) {
            return c == '.' || isSign(c);
        }

        private static boolean isSign(int c) {
            return c >= 'a' && c <= 'h';
        }

        private static boolean isDigit(int c) {
            return c >= '0' && c <= '9';
        }

        private static boolean isModeDigit(int c) {
            return c >= '0' && c <= '3';
        }

        private int dueBehind(int due, int c) {
            switch (due) {
                case MODE_DIGIT:
                    return isModeDigit(c) ? COLON : WRONG;
                case COLON:
                    return c == ':' ? PART : WRONG;
                case PART:
                    return dueInPart(c);
                case BEHIND_PART:
                    return dueBehindPart(c);
                case ACT_DIGIT:
                    return isModeDigit(c) ? BEHIND_ACT : WRONG;
                default:
                    return c == ';' ? dueInNextRule() : WRONG;
            }
        }

        private int dueInPart(int c) {
            if (isLetter(c)) {
                return BEHIND_PART;
            }
            if (c != '(' || open >= OPEN_AT_MOST) {
                return WRONG;
            }
            open++;
            return PART;
        }

        private int dueBehindPart(int c) {
            if (isLetter(c) || c == '(') {
                return dueInPart(c);
            }
            switch (c) {
                case '*':
                case '+':
                case '?':
                    return BEHIND_PART;
                case '|':
                    return PART;
                case ')':
                    open--;
                    return open < 0 ? WRONG : BEHIND_PART;
                case '<':
                    return open == 0 ? BEHIND_ACT : WRONG;
                case '>':
                case '=':
                    return open == 0 ? ACT_DIGIT : WRONG;
                case ';':
                    return open == 0 ? dueInNextRule() : WRONG;
                default:
                    return WRONG;
            }
        }

        private int dueInNextRule() {
            ruleNumber++;
            return ruleNumber < RULES_AT_MOST ? MODE_DIGIT : WRONG;
        }

        private static int lettersOfMode(Text text, int m) {
            int found = 0;
            int modeHere = NONE;
            for (int p = 0; p < text.length; p++) {
                int c = text.get(p);
                if (p == 0 || text.get(p - 1) == ';') {
                    modeHere = c - '0';
                } else if (modeHere == m && isLetter(c)) {
                    found++;
                }
            }
            return found;
        }
    }

    /** RULES as tables; LETTERS are numbered in each MODE for itself, so that a STANDING is a set of bits. */
    private static final class Rules {
        private int total = 0;
        private final int[] mode = new int[RULES_AT_MOST];
        private final int[] letters = new int[RULES_AT_MOST];
        private final int[] act = new int[RULES_AT_MOST];
        private final int[] digit = new int[RULES_AT_MOST];
        private final int[] last = new int[RULES_AT_MOST];
        private final boolean[] empty = new boolean[RULES_AT_MOST];
        private final int[] used = new int[MODE_KINDS];
        private final int[] opening = new int[MODE_KINDS];
        private final int[][] follow = new int[MODE_KINDS][LETTERS_AT_MOST];
        private final int[][] takers = new int[MODE_KINDS][SIGN_KINDS];

        void clear() {
            total = 0;
            for (int m = 0; m < MODE_KINDS; m++) {
                used[m] = 0;
                opening[m] = 0;
                Arrays.fill(follow[m], 0);
                Arrays.fill(takers[m], 0);
            }
        }

        /** LETTERS by which a row can begin. */
        int atFirst(int m) {
            return isMode(m) ? opening[m] : 0;
        }

        /** LETTERS by which it can go on where these stand. */
        int after(int m, int standing) {
            int set = 0;
            if (isMode(m)) {
                for (int letter = 0; letter < LETTERS_AT_MOST; letter++) {
                    set |= (standing >> letter & 1) != 0 ? follow[m][letter] : 0;
                }
            }
            return set;
        }

        int takersOf(int m, int s) {
            return isMode(m) && s >= 0 && s < SIGN_KINDS ? takers[m][s] : 0;
        }

        int signsTakenBy(int m, int set) {
            int signs = 0;
            for (int s = 0; s < SIGN_KINDS; s++) {
                signs |= (set & takersOf(m, s)) != 0 ? 1 << s : 0;
            }
            return signs;
        }

        int standing(int m, Line line, int i, int j) {
            int next = atFirst(m);
            int standing = 0;
            for (int p = i; p < j; p++) {
                standing = next & takersOf(m, line.get(p));
                next = after(m, standing);
            }
            return standing;
        }

        int winner(int m, int standing) {
            for (int k = 0; k < total; k++) {
                if (mode[k] == m && (last[k] & standing) != 0) {
                    return k;
                }
            }
            return NONE;
        }

        int matching(int m, int standing) {
            int bits = 0;
            for (int k = 0; k < total; k++) {
                bits |= mode[k] == m && (last[k] & standing) != 0 ? 1 << k : 0;
            }
            return bits;
        }

        int matchingNothing(int m) {
            int bits = 0;
            for (int k = 0; k < total; k++) {
                bits |= mode[k] == m && empty[k] ? 1 << k : 0;
            }
            return bits;
        }

        int lettersOfAll() {
            int all = 0;
            for (int k = 0; k < total; k++) {
                all += letters[k];
            }
            return all;
        }

        int modesWithRules() {
            int bits = 0;
            for (int k = 0; k < total; k++) {
                bits |= 1 << mode[k];
            }
            return bits;
        }
    }

    /**
     * Makes the tables of RULES from a text that Grammar has passed. A piece of a WAY is one number: the LETTERS that
     * can take its first sign, those that can take its last, and whether it matches nothing at all.
     */
    private static final class Builder {
        private static final int NO_PIECE = -1;
        private static final int LAST_SHIFT = LETTERS_AT_MOST;
        private static final int EMPTY_BIT = 1 << (2 * LETTERS_AT_MOST);

        private final int[] chains = new int[OPEN_AT_MOST + 1];
        private final int[] wholes = new int[OPEN_AT_MOST + 1];
        private int open = 0;
        private int part = NO_PIECE;
        private int rule = 0;
        private int mode = 0;

        void build(Rules rules, Book book) {
            rules.clear();
            boolean isFirst = true;
            for (int p = 0; p < book.textLength && p < TEXT_AT_MOST; p++) {
                int c = book.text[p];
                if (isFirst) {
                    beginRule(rules, c - '0');
                } else if (c == ';') {
                    endRule(rules);
                } else if (Grammar.isLetter(c)) {
                    addLetter(rules, c);
                } else {
                    take(rules, c);
                }
                isFirst = c == ';';
            }
            if (book.textLength > 0) {
                endRule(rules);
            }
        }

        private void beginRule(Rules rules, int modeOfRule) {
            rule = rules.total < RULES_AT_MOST ? rules.total : RULES_AT_MOST - 1;
            mode = isMode(modeOfRule) ? modeOfRule : 0;
            rules.mode[rule] = mode;
            rules.letters[rule] = 0;
            rules.act[rule] = ACT_NONE;
            rules.digit[rule] = NONE;
            open = 0;
            part = NO_PIECE;
            chains[0] = NO_PIECE;
            wholes[0] = NO_PIECE;
        }

        private void endRule(Rules rules) {
            endChain(rules);
            int whole = wholes[0];
            rules.opening[mode] |= firstOf(whole);
            rules.last[rule] = lastOf(whole);
            rules.empty[rule] = mayBeEmpty(whole);
            rules.total = rule + 1;
        }

        private void take(Rules rules, int c) {
            switch (c) {
                case '(':
                    endPart(rules);
                    openBracket();
                    break;
                case ')':
                    endChain(rules);
                    closeBracket();
                    break;
                case '|':
                    endChain(rules);
                    break;
                case '*':
                    link(rules, lastOf(part), firstOf(part));
                    part |= EMPTY_BIT;
                    break;
                case '+':
                    link(rules, lastOf(part), firstOf(part));
                    break;
                case '?':
                    part |= EMPTY_BIT;
                    break;
                default:
                    takeAct(rules, c);
                    break;
            }
        }

        private void takeAct(Rules rules, int c) {
            if (c == '<') {
                rules.act[rule] = ACT_GOES;
            } else if (c == '>') {
                rules.act[rule] = ACT_ON_TOP;
            } else if (c == '=') {
                rules.act[rule] = ACT_IN_PLACE;
            } else if (c != ':') {
                rules.digit[rule] = c - '0';
            }
        }

        private void addLetter(Rules rules, int c) {
            endPart(rules);
            int letter = rules.used[mode];
            if (letter < 0 || letter >= LETTERS_AT_MOST) {
                return;
            }
            rules.used[mode]++;
            rules.letters[rule]++;
            int bit = 1 << letter;
            for (int s = 0; s < SIGN_KINDS; s++) {
                rules.takers[mode][s] |= c == '.' || c == 'a' + s ? bit : 0;
            }
            part = bit | bit << LAST_SHIFT;
        }

        private void openBracket() {
            if (open < OPEN_AT_MOST) {
                open++;
                chains[open] = NO_PIECE;
                wholes[open] = NO_PIECE;
            }
        }

        private void closeBracket() {
            part = wholes[open];
            if (open > 0) {
                open--;
            }
        }

        private void endChain(Rules rules) {
            endPart(rules);
            int chain = chains[open];
            int whole = wholes[open];
            wholes[open] = whole == NO_PIECE ? chain : whole | chain;
            chains[open] = NO_PIECE;
        }

        /** A PART joins its CHAIN only here, since any * + ? behind it comes first. */
        private void endPart(Rules rules) {
            int chain = chains[open];
            if (chain == NO_PIECE) {
                chains[open] = part;
            } else if (part != NO_PIECE) {
                link(rules, lastOf(chain), firstOf(part));
                int first = firstOf(chain) | (mayBeEmpty(chain) ? firstOf(part) : 0);
                int last = lastOf(part) | (mayBeEmpty(part) ? lastOf(chain) : 0);
                chains[open] = first | last << LAST_SHIFT | (chain & part & EMPTY_BIT);
            }
            part = NO_PIECE;
        }

        private void link(Rules rules, int from, int to) {
            for (int letter = 0; letter < LETTERS_AT_MOST; letter++) {
                rules.follow[mode][letter] |= (from >> letter & 1) != 0 ? to : 0;
            }
        }

        private static int firstOf(int piece) {
            return piece & (LETTER_SETS - 1);
        }

        private static int lastOf(int piece) {
            return piece >> LAST_SHIFT & (LETTER_SETS - 1);
        }

        private static boolean mayBeEmpty(int piece) {
            return (piece & EMPTY_BIT) != 0;
        }
    }

    /** A row of signs that can be changed. */
    private static final class Line {
        private final int[] signs = new int[LINE_AT_MOST];
        private int length = 0;

        boolean has(int p) {
            return p >= 0 && p < length;
        }

        int get(int p) {
            return p >= 0 && p < length && p < LINE_AT_MOST ? signs[p] : NONE;
        }

        void copy(Line other) {
            System.arraycopy(other.signs, 0, signs, 0, LINE_AT_MOST);
            length = other.length;
        }

        void take(Text text) {
            length = 0;
            for (int p = 0; p < text.length; p++) {
                insert(p, text.get(p) - 'a');
            }
        }

        /** 0, or what a CHANGE that can't be done answers. */
        int refusal(int kind, int q, int s) {
            boolean isPlace = has(q) || (kind == COMES && q == length);
            boolean isSign = s >= 0 && s < SIGN_KINDS;
            if (!isPlace || !isSign) {
                return NONE;
            }
            if (kind == BECOMES && get(q) == s) {
                return NOTHING_SUCH;
            }
            return kind == COMES && length >= LINE_AT_MOST ? BARRED : 0;
        }

        /** What is refused is not done. */
        void change(int kind, int q, int s) {
            if (refusal(kind, q, s) < 0) {
                return;
            }
            if (kind == BECOMES) {
                put(q, s);
            } else if (kind == COMES) {
                insert(q, s);
            } else {
                remove(q);
            }
        }

        void put(int q, int s) {
            if (q >= 0 && q < length && q < LINE_AT_MOST) {
                signs[q] = s;
            }
        }

        void insert(int q, int s) {
            if (q < 0 || q > length || length >= LINE_AT_MOST) {
                return;
            }
            for (int p = length; p > q; p--) {
                signs[p] = signs[p - 1];
            }
            signs[q] = s;
            length++;
        }

        private void remove(int q) {
            if (q < 0 || q >= length || length > LINE_AT_MOST) {
                return;
            }
            for (int p = q; p < length - 1; p++) {
                signs[p] = signs[p + 1];
            }
            length--;
        }
    }

    /** RULES, as their text, and a LINE: all that is kept and undone. */
    private static final class Book {
        private final int[] text = new int[TEXT_AT_MOST];
        private int textLength = 0;
        private final Line line = new Line();

        void copy(Book other) {
            System.arraycopy(other.text, 0, text, 0, TEXT_AT_MOST);
            textLength = other.textLength;
            line.copy(other.line);
        }

        void takeRules(Text source) {
            System.arraycopy(source.signs, 0, text, 0, TEXT_AT_MOST);
            textLength = source.length;
        }
    }

    /** The TOKENS of a LINE. MODES on one another are one number, two bits for each, the topmost one lowest. */
    private static final class Cutting {
        private static final int PILE_BITS = (1 << (2 * MODES_AT_MOST)) - 1;

        private int size = 0;
        private int most = 1;
        private final int[] rule = new int[LINE_AT_MOST];
        private final int[] first = new int[LINE_AT_MOST];
        private final int[] behind = new int[LINE_AT_MOST];
        private final int[] readTo = new int[LINE_AT_MOST];
        private final int[] dead = new int[LINE_AT_MOST];
        private final int[] mode = new int[LINE_AT_MOST];
        private final int[] depth = new int[LINE_AT_MOST];
        private final int[] pile = new int[LINE_AT_MOST];
        private int depthNow = 1;
        private int pileNow = 0;
        private int foundRule = NONE;
        private int foundBehind = 0;
        private int foundReadTo = 0;
        private int foundDead = NONE;

        void make(Rules rules, Line line) {
            size = 0;
            most = 1;
            depthNow = 1;
            pileNow = 0;
            int p = 0;
            for (int k = 0; k < LINE_AT_MOST && p < line.length; k++) {
                int top = pileNow & 3;
                readFrom(rules, line, top, p);
                first[k] = p;
                rule[k] = foundRule;
                behind[k] = foundRule == NONE ? p + 1 : foundBehind;
                readTo[k] = foundReadTo;
                dead[k] = foundDead;
                mode[k] = top;
                doAct(rules, foundRule);
                depth[k] = depthNow;
                pile[k] = pileNow;
                p = behind[k];
                size = k + 1;
            }
        }

        /** A row without signs is never found, though a RULE may match it: no TOKEN could come of it. */
        void readFrom(Rules rules, Line line, int m, int p) {
            foundRule = NONE;
            foundBehind = p;
            foundReadTo = p;
            foundDead = NONE;
            int next = rules.atFirst(m);
            for (int q = p; q < line.length && foundDead == NONE; q++) {
                int standing = next & rules.takersOf(m, line.get(q));
                foundReadTo = q + 1;
                if (standing == 0) {
                    foundDead = q;
                }
                int winner = rules.winner(m, standing);
                if (winner != NONE) {
                    foundRule = winner;
                    foundBehind = q + 1;
                }
                next = rules.after(m, standing);
            }
        }

        private void doAct(Rules rules, int k) {
            if (k < 0 || k >= rules.total) {
                return;
            }
            int digit = rules.digit[k] & 3;
            switch (rules.act[k]) {
                case ACT_GOES:
                    if (depthNow > 1) {
                        depthNow--;
                        pileNow >>= 2;
                    }
                    break;
                case ACT_ON_TOP:
                    depthNow = Math.min(depthNow + 1, MODES_AT_MOST);
                    pileNow = (pileNow << 2 | digit) & PILE_BITS;
                    break;
                case ACT_IN_PLACE:
                    pileNow = (pileNow & ~3) | digit;
                    break;
                default:
                    break;
            }
            most = Math.max(most, depthNow);
        }

        int reach(int k) {
            if (k < 0 || k >= size) {
                return 0;
            }
            return dead[k] == NONE ? readTo[k] + 1 : readTo[k];
        }

        /** How many TOKENS, from the first one on, a change at q does not reach. */
        int aheadOf(int q) {
            int k = 0;
            for (int t = 0; t < size && t == k; t++) {
                k += reach(t) <= q ? 1 : 0;
            }
            return k;
        }

        int holder(int p) {
            for (int k = 0; k < size; k++) {
                if (first[k] <= p && p < behind[k]) {
                    return k;
                }
            }
            return NONE;
        }

        int endingAt(int place) {
            for (int k = 0; k < size; k++) {
                if (behind[k] == place) {
                    return k;
                }
            }
            return NONE;
        }

        boolean hasModesOf(int k, Cutting other, int otherK) {
            if (k < 0 || k >= size || otherK < 0 || otherK >= other.size) {
                return false;
            }
            return depth[k] == other.depth[otherK] && pile[k] == other.pile[otherK];
        }

        int alike(Cutting other) {
            int k = 0;
            for (int t = 0; t < size && t < other.size && t == k; t++) {
                k += rule[t] == other.rule[t] && behind[t] == other.behind[t] ? 1 : 0;
            }
            return k;
        }

        int stuckTokens() {
            int found = 0;
            for (int k = 0; k < size; k++) {
                found += rule[k] == NONE ? 1 : 0;
            }
            return found;
        }

        int signsRead() {
            int signs = 0;
            for (int k = 0; k < size; k++) {
                signs += readTo[k] - first[k];
            }
            return signs;
        }
    }

    /** Pairs of a STANDING (with its MODE) and a place that CUTTING comes to, with how often it does. */
    private static final class Pairs {
        private final int[][] keys = new int[LINE_AT_MOST + 1][LINE_AT_MOST];
        private final int[][] times = new int[LINE_AT_MOST + 1][LINE_AT_MOST];
        private final int[] sizes = new int[LINE_AT_MOST + 1];
        private int total = 0;
        private int signsRead = 0;

        /** All that CUTTING comes to without MEMORY. */
        void walk(Rules rules, Line line, Cutting cutting) {
            clear();
            for (int k = 0; k < cutting.size; k++) {
                int m = cutting.mode[k];
                int next = rules.atFirst(m);
                for (int q = cutting.first[k]; q < cutting.readTo[k]; q++) {
                    int standing = next & rules.takersOf(m, line.get(q));
                    next = rules.after(m, standing);
                    if (standing != 0) {
                        comeTo(q + 1, keyOf(m, standing));
                    }
                }
            }
        }

        /** CUTTING WITH MEMORY: the pairs are then those that are REMEMBERED. */
        void remember(Rules rules, Line line, Cutting cutting) {
            clear();
            for (int k = 0; k < cutting.size; k++) {
                int wonTo = cutting.rule[k] == NONE ? cutting.first[k] : cutting.behind[k];
                readOn(rules, line, cutting.mode[k], cutting.first[k], wonTo);
            }
        }

        private void readOn(Rules rules, Line line, int m, int p, int wonTo) {
            int next = rules.atFirst(m);
            boolean goesOn = true;
            for (int q = p; q < line.length && goesOn; q++) {
                int standing = next & rules.takersOf(m, line.get(q));
                next = rules.after(m, standing);
                signsRead++;
                int key = keyOf(m, standing);
                goesOn = standing != 0 && indexOf(q + 1, key) == NONE;
                if (goesOn && q + 1 > wonTo) {
                    comeTo(q + 1, key);
                }
            }
        }

        int repeated() {
            int found = 0;
            for (int place = 0; place <= LINE_AT_MOST; place++) {
                for (int i = 0; i < sizes[place]; i++) {
                    found += times[place][i] > 1 ? 1 : 0;
                }
            }
            return found;
        }

        int mostTimes() {
            int most = 0;
            for (int place = 0; place <= LINE_AT_MOST; place++) {
                for (int i = 0; i < sizes[place]; i++) {
                    most = Math.max(most, times[place][i]);
                }
            }
            return most;
        }

        private void clear() {
            Arrays.fill(sizes, 0);
            total = 0;
            signsRead = 0;
        }

        private static int keyOf(int m, int standing) {
            return m * LETTER_SETS + standing;
        }

        private int indexOf(int place, int key) {
            if (place < 0 || place > LINE_AT_MOST) {
                return NONE;
            }
            for (int i = 0; i < sizes[place]; i++) {
                if (keys[place][i] == key) {
                    return i;
                }
            }
            return NONE;
        }

        private void comeTo(int place, int key) {
            if (place < 0 || place > LINE_AT_MOST) {
                return;
            }
            int i = indexOf(place, key);
            if (i != NONE) {
                times[place][i]++;
            } else if (sizes[place] < LINE_AT_MOST) {
                keys[place][sizes[place]] = key;
                times[place][sizes[place]] = 1;
                sizes[place]++;
                total++;
            }
        }
    }

    /** All STANDINGS that can be come to, those of shorter rows first, of equally long ones by the alphabet. */
    private static final class Search {
        private final int[] queue = new int[LETTER_SETS];
        private final int[] cameBy = new int[LETTER_SETS];
        private final int[] path = new int[LETTER_SETS];
        private int size = 0;

        void explore(Rules rules, int m) {
            Arrays.fill(cameBy, NONE);
            size = 0;
            spread(rules, m, 0, rules.atFirst(m));
            for (int h = 0; h < size && h < LETTER_SETS; h++) {
                spread(rules, m, queue[h], rules.after(m, queue[h]));
            }
        }

        /** The signs of the first row that comes to a STANDING, the last one first: how many. */
        int trace(int standing) {
            int signs = 0;
            int here = standing;
            for (int step = 0; step < LETTER_SETS && here > 0 && here < LETTER_SETS; step++) {
                path[step] = cameBy[here] & (SIGN_KINDS - 1);
                here = cameBy[here] >> 3;
                signs = step + 1;
            }
            return signs;
        }

        private void spread(Rules rules, int m, int from, int next) {
            for (int s = 0; s < SIGN_KINDS; s++) {
                int standing = next & rules.takersOf(m, s);
                boolean isNew = standing > 0 && standing < LETTER_SETS && cameBy[standing] == NONE;
                if (isNew && size < LETTER_SETS) {
                    cameBy[standing] = from << 3 | s;
                    queue[size] = standing;
                    size++;
                }
            }
        }
    }

    /** All ways to cut a stretch of the LINE into rows that RULES of MODE 0 match. */
    private static final class Splits {
        private final int[] ends = new int[LINE_AT_MOST + 1];
        private final int[] cuts = new int[LINE_AT_MOST + 1];
        private final int[] rows = new int[LINE_AT_MOST + 1];

        void make(Rules rules, Line line, int i, int j) {
            if (i < 0 || j > LINE_AT_MOST) {
                return;
            }
            for (int p = j; p >= i; p--) {
                ends[p] = endsFrom(rules, line, p, j);
                cuts[p] = p == j ? 1 : 0;
                rows[p] = p == j ? 0 : NONE;
                for (int q = p + 1; q <= j; q++) {
                    if ((ends[p] >> q & 1) != 0) {
                        addRow(p, q);
                    }
                }
            }
        }

        /** Whether a way with the fewest rows can have a row from p up to q. */
        boolean leads(int p, int q) {
            if (p < 0 || q <= p || q > LINE_AT_MOST) {
                return false;
            }
            return (ends[p] >> q & 1) != 0 && rows[q] != NONE && rows[q] == rows[p] - 1;
        }

        private void addRow(int p, int q) {
            if (p < 0 || q <= p || q > LINE_AT_MOST || rows[q] == NONE) {
                return;
            }
            cuts[p] += cuts[q];
            if (rows[p] == NONE || rows[q] + 1 < rows[p]) {
                rows[p] = rows[q] + 1;
            }
        }

        private static int endsFrom(Rules rules, Line line, int p, int j) {
            int bits = 0;
            int next = rules.atFirst(0);
            for (int q = p; q < j && next != 0; q++) {
                int standing = next & rules.takersOf(0, line.get(q));
                bits |= rules.winner(0, standing) == NONE ? 0 : 1 << (q + 1);
                next = rules.after(0, standing);
            }
            return bits;
        }
    }

    /** What can be undone: the books as they were, the latest ones. */
    private static final class History {
        private final Book[] books = new Book[UNDO_AT_MOST];
        private int oldest = 0;
        private int size = 0;

        void push(Book book) {
            Book slot = slotAt(size < UNDO_AT_MOST ? size : 0);
            slot.copy(book);
            if (size < UNDO_AT_MOST) {
                size++;
            } else {
                oldest = (oldest + 1) % UNDO_AT_MOST;
            }
        }

        boolean pop(Book book) {
            if (size <= 0) {
                return false;
            }
            size--;
            book.copy(slotAt(size));
            return true;
        }

        void forget() {
            size = 0;
        }

        private Book slotAt(int fromOldest) {
            int i = Math.floorMod(oldest + fromOldest, UNDO_AT_MOST);
            if (books[i] == null) {
                books[i] = new Book();
            }
            return books[i];
        }
    }
}
