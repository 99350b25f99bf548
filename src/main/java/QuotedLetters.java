import java.util.Arrays;

/**
 * A heap of letters whose lines quote lines of others. The document's promises tell each call;
 * a refused call changes nothing.
 */
public final class QuotedLetters {
    public static final int NONE = -1, UNKNOWN = -1001, OUTSIDE = -1002, NOT = -1003, FULL = -1004, LARGE = -1005;

    private static final int MOST_LETTERS = 40;
    private static final int MOST_LINES = 14;
    private static final int MOST_SPOTS = MOST_LETTERS * MOST_LINES;
    private static final int MOST_WORDS = 8;
    private static final int MOST_SIGNS = 4;
    private static final int MOST_BYTES = 120;
    private static final int MOST_PIECES = 4;
    private static final int LAST_WRITER = 9;
    private static final int LAST_DAY = 9999;
    private static final int LAST_DEPTH = 5;
    private static final int LAST_WORD = 63;
    private static final int LAST_WHERE = 2;

    private static final int NEAR = 0;
    private static final int FIT = 1;
    private static final int TRUST = 2;
    private static final int KEEP = 3;
    private static final int DEEP = 4;
    private static final int KINDS = 5;
    private static final int[] FIRST_RULES = {0, 50, 1, 14, 5};
    private static final int[] RULE_BOUNDS = {2, 100, 1, 14, 5};

    private static final int CANNOT_STAND = 1;
    private static final int BAD_NUMBER = 2;
    private static final int TOLD_ALREADY = 3;

    private final int[] rules = new int[KINDS];
    private final Heap heap;
    private final Fits fits;
    private final Kin now;
    private final Kin trial;
    private final LostLetters losts;
    private final Pattern pattern;
    private final RuleText ruleText;
    private long draft;
    private int draftWords;

    public QuotedLetters() {
        System.arraycopy(FIRST_RULES, 0, rules, 0, KINDS);
        heap = new Heap();
        fits = new Fits(heap, rules);
        now = new Kin(heap, fits, rules);
        trial = new Kin(heap, fits, rules);
        losts = new LostLetters(heap, now);
        pattern = new Pattern();
        ruleText = new RuleText();
    }

    // ---- letters

    public int word(int w) {
        if (w < 1 || w > LAST_WORD) {
            return OUTSIDE;
        }
        if (draftWords >= MOST_WORDS) {
            return FULL;
        }
        draft = Texts.with(draft, draftWords, w);
        draftWords++;
        return draftWords;
    }

    public int letter(int writer, int day, int names) {
        if (names != NONE && !heap.has(names)) {
            return UNKNOWN;
        }
        if (isWrongWriter(writer) || isWrongDay(day)) {
            return OUTSIDE;
        }
        if (heap.letters >= MOST_LETTERS) {
            return FULL;
        }
        forgetFindings();
        return heap.addLetter(writer, day, names);
    }

    public int line(int x, int depth) {
        if (!heap.has(x)) {
            return UNKNOWN;
        }
        if (depth < 0 || depth > LAST_DEPTH) {
            return OUTSIDE;
        }
        if (heap.lines[x] >= MOST_LINES) {
            return FULL;
        }
        int number = heap.addLine(x, depth, draft);
        draft = Texts.EMPTY;
        draftWords = 0;
        fits.forgetLetter(x);
        forgetFindings();
        return number;
    }

    public int answer(int x, int writer, int day) {
        if (!heap.has(x)) {
            return UNKNOWN;
        }
        if (isWrongWriter(writer) || isWrongDay(day)) {
            return OUTSIDE;
        }
        if (heap.letters >= MOST_LETTERS) {
            return FULL;
        }
        int made = heap.addLetter(writer, day, x);
        heap.quoteInto(made, x, rules[KEEP], rules[DEEP]);
        forgetFindings();
        return made;
    }

    public int take(int x) {
        if (!heap.has(x)) {
            return UNKNOWN;
        }
        if (heap.isTaken(x)) {
            return NOT;
        }
        heap.turnTaken(x);
        forgetFindings();
        return 1;
    }

    public int put(int x) {
        if (!heap.has(x)) {
            return UNKNOWN;
        }
        if (!heap.isTaken(x)) {
            return NOT;
        }
        heap.turnTaken(x);
        forgetFindings();
        return 1;
    }

    public int known(int k) {
        if (k < NONE || k > heap.letters) {
            return OUTSIDE;
        }
        heap.limit = k;
        forgetFindings();
        return k;
    }

    public int about(int x, int what) {
        if (!heap.has(x)) {
            return UNKNOWN;
        }
        if (what < 0 || what > 11) {
            return OUTSIDE;
        }
        switch (what) {
            case 0:
                return heap.writer[x];
            case 1:
                return heap.day[x];
            case 2:
                return heap.names[x];
            case 3:
                return heap.lines[x];
            case 4:
                return heap.quoted[x];
            case 5:
                return heap.isSeen(x) ? 1 : 0;
            default:
                break;
        }
        if (!heap.isSeen(x)) {
            return NONE;
        }
        now.refresh(NONE);
        return aboutKin(x, what);
    }

    public int told(int x, int line, int what) {
        if (!heap.hasLine(x, line)) {
            return UNKNOWN;
        }
        if (what < 0 || what > 1 + MOST_WORDS) {
            return OUTSIDE;
        }
        int spot = spotOf(x, line);
        if (what == 0) {
            return heap.depth[spot];
        }
        if (what == 1) {
            return Texts.wordsIn(heap.text[spot]);
        }
        return Texts.wordOrNone(heap.text[spot], what - 2);
    }

    public int differ(int x, int line, int y, int other) {
        if (!heap.hasLine(x, line) || !heap.hasLine(y, other)) {
            return UNKNOWN;
        }
        return fits.distance(heap.text[spotOf(x, line)], heap.text[spotOf(y, other)]);
    }

    public int fit(int x, int y) {
        if (!heap.has(x) || !heap.has(y)) {
            return UNKNOWN;
        }
        if (x == y || !heap.isSeen(x) || !heap.isSeen(y)) {
            return NOT;
        }
        return fits.of(x, y);
    }

    public int count(int what) {
        switch (what) {
            case 0:
                return heap.letters;
            case 1:
                return heap.seenLetters();
            case 2:
                return draftWords;
            case 8:
                return pattern.length;
            case 9:
                return ruleText.length;
            case 10:
                return heap.limit;
            default:
                break;
        }
        if (what < 0 || what > 10) {
            return OUTSIDE;
        }
        now.refresh(NONE);
        return countFindings(what);
    }

    // ---- who said what

    public int origin(int x, int line, int what) {
        if (!heap.hasLine(x, line)) {
            return UNKNOWN;
        }
        if (what < 0 || what > 2) {
            return OUTSIDE;
        }
        if (!heap.isSeen(x)) {
            return NOT;
        }
        now.refresh(NONE);
        int source = now.sourceOf(spotOf(x, line));
        if (source == NONE) {
            return NONE;
        }
        int sourceLetter = source / MOST_LINES;
        if (what == 0) {
            return sourceLetter;
        }
        return what == 1 ? source % MOST_LINES : heap.writer[sourceLetter];
    }

    public int altered(int x, int line) {
        if (!heap.hasLine(x, line)) {
            return UNKNOWN;
        }
        if (!heap.isSeen(x)) {
            return NOT;
        }
        now.refresh(NONE);
        return now.isAltered(spotOf(x, line)) ? 1 : 0;
    }

    public int echoes(int x, int line) {
        if (!heap.hasLine(x, line)) {
            return UNKNOWN;
        }
        now.refresh(NONE);
        return now.linesFrom(spotOf(x, line));
    }

    public int group(int x) {
        if (!heap.has(x)) {
            return UNKNOWN;
        }
        now.refresh(NONE);
        losts.refresh();
        return losts.groupOf[x];
    }

    public int lost(int g, int what) {
        now.refresh(NONE);
        losts.refresh();
        if (!losts.has(g)) {
            return UNKNOWN;
        }
        if (what < 0 || what > 2) {
            return OUTSIDE;
        }
        if (what == 0) {
            return losts.pieces[g];
        }
        if (what == 1) {
            return losts.least[g];
        }
        return losts.isLarge(g) ? LARGE : losts.rowLength(g);
    }

    public int lostWord(int g, int i, int k) {
        now.refresh(NONE);
        losts.refresh();
        if (!losts.has(g)) {
            return UNKNOWN;
        }
        if (losts.isLarge(g)) {
            return LARGE;
        }
        if (i < 0 || i >= losts.rowLength(g)) {
            return NONE;
        }
        long text = losts.rowText(g, i);
        return k == NONE ? Texts.wordsIn(text) : Texts.wordOrNone(text, k);
    }

    // ---- order, days

    public int order(int i) {
        if (i < 0 || i >= heap.letters) {
            return NONE;
        }
        now.refresh(NONE);
        return now.writtenAt(i);
    }

    public int quarrel(int i) {
        if (i < 0 || i >= heap.letters) {
            return NONE;
        }
        now.refresh(NONE);
        return now.quarrelAt(i);
    }

    public int span(int x, int what) {
        if (!heap.has(x)) {
            return UNKNOWN;
        }
        if (what < 0 || what > 1) {
            return OUTSIDE;
        }
        if (!heap.isSeen(x)) {
            return NOT;
        }
        if (heap.day[x] != NONE) {
            return heap.day[x];
        }
        now.refresh(NONE);
        return what == 0 ? now.greatestDayAbove(x) : now.leastDayBelow(x);
    }

    // ---- seeking, taken back

    public int sign(int w) {
        if (w < 0 || w > LAST_WORD) {
            return OUTSIDE;
        }
        return pattern.length >= MOST_SIGNS ? FULL : pattern.addSign(w);
    }

    public int clear() {
        int had = pattern.length;
        pattern.length = 0;
        return had;
    }

    public int seek(int writer, int where, int i) {
        if (writer != NONE && isWrongWriter(writer) || where < 0 || where > LAST_WHERE) {
            return OUTSIDE;
        }
        if (pattern.length == 0) {
            return NOT;
        }
        int found = 0;
        for (int x = 0; x < heap.letters; x++) {
            if (!heap.isSeen(x) || writer != NONE && heap.writer[x] != writer) {
                continue;
            }
            for (int line = 0; line < heap.lines[x]; line++) {
                int spot = spotOf(x, line);
                if (!isWhere(heap.depth[spot], where) || !pattern.standsIn(heap.text[spot])) {
                    continue;
                }
                if (found == i) {
                    return spot;
                }
                found++;
            }
        }
        return i == NONE ? found : NONE;
    }

    public int still(int x) {
        if (!heap.has(x)) {
            return UNKNOWN;
        }
        if (!heap.isTaken(x)) {
            return NOT;
        }
        trial.refresh(x);
        return trial.linesQuotedAlike(x);
    }

    // ---- rules

    public int feed(int n, long bytes) {
        if (n < 1 || n > 8) {
            return OUTSIDE;
        }
        return ruleText.length + n > MOST_BYTES ? FULL : ruleText.addBytes(n, bytes);
    }

    public int read() {
        int clauses = ruleText.readClauses();
        ruleText.length = 0;
        if (ruleText.faultAt != NONE) {
            return -10 - ruleText.faultKind;
        }
        if (rules[NEAR] != ruleText.value[NEAR]) {
            fits.forgetAll();
        }
        System.arraycopy(ruleText.value, 0, rules, 0, KINDS);
        forgetFindings();
        return clauses;
    }

    public int fault() {
        return ruleText.faultAt;
    }

    public int rule(int what) {
        return what < 0 || what >= KINDS ? OUTSIDE : rules[what];
    }

    // ---- what the calls share

    private static int spotOf(int x, int line) {
        return MOST_LINES * x + line;
    }

    private static boolean isWrongWriter(int writer) {
        return writer < 0 || writer > LAST_WRITER;
    }

    private static boolean isWrongDay(int day) {
        return day < NONE || day > LAST_DAY;
    }

    private static boolean isWhere(int depth, int where) {
        return where == 0 || (depth == 0) == (where == 1);
    }

    private void forgetFindings() {
        now.fresh = false;
        trial.fresh = false;
        losts.fresh = false;
    }

    private int aboutKin(int x, int what) {
        switch (what) {
            case 6:
                return now.parent[x];
            case 7:
                return now.rootOf(x);
            case 8:
                return now.stepsOf(x);
            case 9:
                return now.childrenOf(x);
            case 10:
                return now.lettersOfThread(x);
            default:
                return now.parent[x] == NONE ? NONE : fits.of(x, now.parent[x]);
        }
    }

    private int countFindings(int what) {
        switch (what) {
            case 3:
                return now.roots();
            case 4:
                return now.alteredLines();
            case 5:
                return now.linesFrom(NONE);
            case 6:
                losts.refresh();
                return losts.groups;
            default:
                return now.quarrels();
        }
    }

    /**
     * A TEXT is one long: its first WORD in the highest six bits that are used, zeros behind the last one. As no
     * WORD is 0, texts are the same if their longs are, and stand by WORDS as their longs stand by size.
     */
    private static final class Texts {
        static final long EMPTY = 0L;
        private static final int WORD_BITS = 6;

        private Texts() {
        }

        static long with(long text, int k, int w) {
            return text | (long) w << WORD_BITS * (MOST_WORDS - 1 - k);
        }

        static int wordAt(long text, int k) {
            return (int) (text >>> WORD_BITS * (MOST_WORDS - 1 - k)) & LAST_WORD;
        }

        static int wordsIn(long text) {
            int words = MOST_WORDS;
            long rest = text;
            while (words > 0 && (rest & LAST_WORD) == 0) {
                rest >>>= WORD_BITS;
                words--;
            }
            return words;
        }

        static int wordOrNone(long text, int k) {
            if (k < 0 || k >= MOST_WORDS || wordAt(text, k) == 0) {
                return NONE;
            }
            return wordAt(text, k);
        }
    }

    /** The letters as they were told, and which of them are seen. */
    private static final class Heap {
        final int[] writer = new int[MOST_LETTERS];
        final int[] day = new int[MOST_LETTERS];
        final int[] names = new int[MOST_LETTERS];
        final int[] lines = new int[MOST_LETTERS];
        final int[] quoted = new int[MOST_LETTERS];
        final int[] depth = new int[MOST_SPOTS];
        final long[] text = new long[MOST_SPOTS];
        int letters;
        int limit = NONE;
        private long taken;

        boolean has(int x) {
            return x >= 0 && x < letters;
        }

        boolean hasLine(int x, int line) {
            return has(x) && line >= 0 && line < lines[x];
        }

        boolean isTaken(int x) {
            return (taken >>> x & 1L) != 0;
        }

        void turnTaken(int x) {
            taken ^= 1L << x;
        }

        boolean isSeen(int x) {
            return isSeenWith(x, NONE);
        }

        /** Whether x would be seen, were the letter back put back. */
        boolean isSeenWith(int x, int back) {
            return (limit == NONE || x < limit) && (x == back || !isTaken(x));
        }

        int seenLetters() {
            int seen = 0;
            for (int x = 0; x < letters; x++) {
                if (isSeen(x)) {
                    seen++;
                }
            }
            return seen;
        }

        /** There must be room: letters below MOST_LETTERS. */
        int addLetter(int itsWriter, int itsDay, int itNames) {
            int x = letters;
            if (x < MOST_LETTERS) {
                writer[x] = itsWriter;
                day[x] = itsDay;
                names[x] = itNames;
                letters++;
            }
            return x;
        }

        int addLine(int x, int itsDepth, long itsText) {
            int line = lines[x];
            if (line < MOST_LINES) {
                depth[spotOf(x, line)] = itsDepth;
                text[spotOf(x, line)] = itsText;
                lines[x]++;
                if (itsDepth > 0) {
                    quoted[x]++;
                }
            }
            return line;
        }

        void quoteInto(int made, int x, int keep, int deep) {
            int tooMany = -keep;
            for (int line = 0; line < lines[x]; line++) {
                if (depth[spotOf(x, line)] < deep) {
                    tooMany++;
                }
            }
            for (int line = 0; line < lines[x]; line++) {
                int spot = spotOf(x, line);
                if (depth[spot] >= deep) {
                    continue;
                }
                if (tooMany > 0) {
                    tooMany--;
                } else {
                    addLine(made, depth[spot] + 1, text[spot]);
                }
            }
        }
    }

    /** How well letters fit: kept for each pair, as it hangs on their lines and near alone, not on who is seen. */
    private static final class Fits {
        private static final int NOT_MEASURED = -1;
        private final Heap heap;
        private final int[] rules;
        private final int[] measured = new int[MOST_LETTERS * MOST_LETTERS];
        private final int[] pairs = new int[MOST_LINES + 1];
        private final int[] changes = new int[MOST_WORDS + 1];

        Fits(Heap itsHeap, int[] itsRules) {
            heap = itsHeap;
            rules = itsRules;
            Arrays.fill(measured, NOT_MEASURED);
        }

        void forgetAll() {
            Arrays.fill(measured, NOT_MEASURED);
        }

        void forgetLetter(int x) {
            for (int y = 0; y < MOST_LETTERS; y++) {
                measured[MOST_LETTERS * x + y] = NOT_MEASURED;
                measured[MOST_LETTERS * y + x] = NOT_MEASURED;
            }
        }

        int of(int x, int y) {
            int pair = MOST_LETTERS * x + y;
            if (measured[pair] == NOT_MEASURED) {
                measured[pair] = mostPairs(x, y);
            }
            return measured[pair];
        }

        /** After a line of x, pairs[j] is the most pairs of the lines of x up to it with the first j of y. */
        private int mostPairs(int x, int y) {
            Arrays.fill(pairs, 0);
            for (int line = 0; line < heap.lines[x]; line++) {
                int before = 0;
                for (int j = 0; j < heap.lines[y]; j++) {
                    int without = pairs[j + 1];
                    int most = Math.max(without, pairs[j]);
                    // a pair more can help only where the line does not raise the count by itself
                    if (before == most && isLike(spotOf(x, line), spotOf(y, j))) {
                        most = before + 1;
                    }
                    pairs[j + 1] = most;
                    before = without;
                }
            }
            return pairs[heap.lines[y]];
        }

        boolean isLike(int spot, int other) {
            if (heap.depth[spot] == 0 || heap.depth[other] != heap.depth[spot] - 1) {
                return false;
            }
            if (heap.text[spot] == heap.text[other]) {
                return true;
            }
            return rules[NEAR] > 0 && distance(heap.text[spot], heap.text[other]) <= rules[NEAR];
        }

        /** After i words of a, changes[j] is by how many these differ from the first j of b. */
        int distance(long a, long b) {
            int wordsOfA = Texts.wordsIn(a);
            int wordsOfB = Texts.wordsIn(b);
            for (int j = 0; j <= wordsOfB; j++) {
                changes[j] = j;
            }
            for (int i = 1; i <= wordsOfA; i++) {
                int before = changes[0];
                changes[0] = i;
                for (int j = 1; j <= wordsOfB; j++) {
                    boolean same = Texts.wordAt(a, i - 1) == Texts.wordAt(b, j - 1);
                    int changed = same ? before : before + 1;
                    before = changes[j];
                    changes[j] = Math.min(changed, 1 + Math.min(before, changes[j - 1]));
                }
            }
            return changes[wordsOfB];
        }
    }

    /** Who answers whom, and to which line of the parent each quoted line is held. */
    private static final class Kin {
        private final Heap heap;
        private final Fits fits;
        private final int[] rules;
        final int[] parent = new int[MOST_LETTERS];
        final int[] held = new int[MOST_SPOTS];
        boolean fresh;
        private int builtWith = NONE;
        private long seen;

        Kin(Heap itsHeap, Fits itsFits, int[] itsRules) {
            heap = itsHeap;
            fits = itsFits;
            rules = itsRules;
        }

        /** Finds all anew if a call changed anything; back is a letter held to be put back (NONE). */
        void refresh(int back) {
            if (fresh && builtWith == back) {
                return;
            }
            seen = 0;
            for (int x = 0; x < heap.letters; x++) {
                parent[x] = NONE;
                if (heap.isSeenWith(x, back)) {
                    seen |= 1L << x;
                }
            }
            for (int x = 0; x < heap.letters; x++) {
                parent[x] = isSeen(x) ? findParent(x) : NONE;
            }
            for (int x = 0; x < heap.letters; x++) {
                holdLines(x);
            }
            builtWith = back;
            fresh = true;
        }

        boolean isSeen(int x) {
            return (seen >>> x & 1L) != 0;
        }

        private int findParent(int x) {
            int named = heap.names[x];
            if (rules[TRUST] == 1 && heap.has(named) && isFree(named, x)) {
                return named;
            }
            int best = NONE;
            int bestFit = 0;
            for (int y = 0; y < heap.letters && heap.quoted[x] > 0; y++) {
                if (isAfter(y, x) || !isFree(y, x)) {
                    continue;
                }
                int itsFit = fits.of(x, y);
                if (itsFit > bestFit) {
                    best = y;
                    bestFit = itsFit;
                }
            }
            return 100 * bestFit >= rules[FIT] * heap.quoted[x] ? best : NONE;
        }

        /** Whether y may be the parent of x, whatever the days. */
        private boolean isFree(int y, int x) {
            return isSeen(y) && y != x && !leadsTo(y, x);
        }

        private boolean isAfter(int y, int x) {
            return heap.day[x] != NONE && heap.day[y] != NONE && heap.day[y] > heap.day[x];
        }

        private boolean leadsTo(int y, int x) {
            int at = y;
            for (int step = 0; step < MOST_LETTERS && at != NONE; step++) {
                if (at == x) {
                    return true;
                }
                at = parent[at];
            }
            return false;
        }

        private void holdLines(int x) {
            for (int line = 0; line < heap.lines[x]; line++) {
                int spot = spotOf(x, line);
                held[spot] = parent[x] == NONE || heap.depth[spot] == 0 ? NONE : findHeld(spot, parent[x]);
            }
        }

        private int findHeld(int spot, int y) {
            for (int line = 0; line < heap.lines[y]; line++) {
                int other = spotOf(y, line);
                if (heap.text[other] == heap.text[spot] && heap.depth[other] == heap.depth[spot] - 1) {
                    return other;
                }
            }
            for (int line = 0; line < heap.lines[y]; line++) {
                if (fits.isLike(spot, spotOf(y, line))) {
                    return spotOf(y, line);
                }
            }
            return NONE;
        }

        int rootOf(int x) {
            int at = x;
            for (int step = 0; step < MOST_LETTERS && parent[at] != NONE; step++) {
                at = parent[at];
            }
            return at;
        }

        int stepsOf(int x) {
            int at = x;
            int steps = 0;
            while (steps < MOST_LETTERS && parent[at] != NONE) {
                at = parent[at];
                steps++;
            }
            return steps;
        }

        int childrenOf(int x) {
            int children = 0;
            for (int y = 0; y < heap.letters; y++) {
                if (parent[y] == x) {
                    children++;
                }
            }
            return children;
        }

        int lettersOfThread(int x) {
            int root = rootOf(x);
            int letters = 0;
            for (int y = 0; y < heap.letters; y++) {
                if (isSeen(y) && rootOf(y) == root) {
                    letters++;
                }
            }
            return letters;
        }

        int roots() {
            int roots = 0;
            for (int x = 0; x < heap.letters; x++) {
                if (isSeen(x) && parent[x] == NONE) {
                    roots++;
                }
            }
            return roots;
        }

        /** Each line held to is one depth less, so the way ends within the depths there are. */
        int sourceOf(int spot) {
            int at = spot;
            for (int step = 0; step <= LAST_DEPTH && at != NONE; step++) {
                if (heap.depth[at] == 0) {
                    return at;
                }
                at = held[at];
            }
            return NONE;
        }

        boolean isAltered(int spot) {
            return held[spot] != NONE && heap.text[held[spot]] != heap.text[spot];
        }

        int alteredLines() {
            int lines = 0;
            for (int x = 0; x < heap.letters; x++) {
                for (int line = 0; line < heap.lines[x]; line++) {
                    if (isAltered(spotOf(x, line))) {
                        lines++;
                    }
                }
            }
            return lines;
        }

        /** Lines of seen letters that have this spot as their origin; NONE: those that have none. */
        int linesFrom(int source) {
            int lines = 0;
            for (int x = 0; x < heap.letters; x++) {
                for (int line = 0; isSeen(x) && line < heap.lines[x]; line++) {
                    if (sourceOf(spotOf(x, line)) == source) {
                        lines++;
                    }
                }
            }
            return lines;
        }

        /** The set of own lines of x that some other seen letter quotes word for word. */
        int linesQuotedAlike(int x) {
            int set = 0;
            for (int y = 0; y < heap.letters; y++) {
                if (y == x || !isSeen(y)) {
                    continue;
                }
                for (int line = 0; line < heap.lines[y]; line++) {
                    int spot = spotOf(y, line);
                    int source = sourceOf(spot);
                    if (source != NONE && source / MOST_LINES == x && heap.text[source] == heap.text[spot]) {
                        set |= 1 << source % MOST_LINES;
                    }
                }
            }
            return set;
        }

        int writtenAt(int i) {
            long written = 0;
            int x = NONE;
            for (int step = 0; step <= i && step < MOST_LETTERS; step++) {
                x = nextToWrite(written);
                if (x == NONE) {
                    return NONE;
                }
                written |= 1L << x;
            }
            return x;
        }

        private int nextToWrite(long written) {
            for (int x = 0; x < heap.letters; x++) {
                boolean isWritten = (written >>> x & 1L) != 0;
                boolean isReady = parent[x] == NONE || (written >>> parent[x] & 1L) != 0;
                if (isSeen(x) && !isWritten && isReady) {
                    return x;
                }
            }
            return NONE;
        }

        private boolean isQuarrel(int x) {
            return parent[x] != NONE && isAfter(parent[x], x);
        }

        int quarrels() {
            int quarrels = 0;
            for (int x = 0; x < heap.letters; x++) {
                if (isQuarrel(x)) {
                    quarrels++;
                }
            }
            return quarrels;
        }

        int quarrelAt(int i) {
            int before = 0;
            for (int x = 0; x < heap.letters; x++) {
                if (!isQuarrel(x)) {
                    continue;
                }
                if (before == i) {
                    return x;
                }
                before++;
            }
            return NONE;
        }

        int greatestDayAbove(int x) {
            int greatest = 0;
            int at = parent[x];
            for (int step = 0; step < MOST_LETTERS && at != NONE; step++) {
                greatest = Math.max(greatest, heap.day[at]);
                at = parent[at];
            }
            return greatest;
        }

        int leastDayBelow(int x) {
            int least = LAST_DAY;
            for (int y = 0; y < heap.letters; y++) {
                if (y != x && heap.day[y] != NONE && isSeen(y) && leadsTo(y, x)) {
                    least = Math.min(least, heap.day[y]);
                }
            }
            return least;
        }
    }

    /** The groups of letters with pieces, and the row of the one that was asked for last. */
    private static final class LostLetters {
        private final Heap heap;
        private final Kin kin;
        private final RowFinder finder = new RowFinder();
        final int[] groupOf = new int[MOST_LETTERS];
        final int[] pieces = new int[MOST_LETTERS];
        final int[] least = new int[MOST_LETTERS];
        private final int[] members = new int[MOST_LETTERS];
        int groups;
        boolean fresh;
        private int groupOfRow = NONE;

        LostLetters(Heap itsHeap, Kin itsKin) {
            heap = itsHeap;
            kin = itsKin;
        }

        boolean has(int g) {
            return g >= 0 && g < groups;
        }

        boolean isLarge(int g) {
            return pieces[g] > MOST_PIECES;
        }

        /** The kin must be fresh. */
        void refresh() {
            if (fresh) {
                return;
            }
            groups = 0;
            groupOfRow = NONE;
            Arrays.fill(groupOf, NONE);
            for (int x = 0; x < heap.letters; x++) {
                if (groupOf[x] == NONE && hasPiece(x)) {
                    least[groups] = x;
                    pieces[groups] = gather(x, groups);
                    groups++;
                }
            }
            fresh = true;
        }

        /** Puts x, and all that hang together with it, into group g: how many. */
        private int gather(int x, int g) {
            members[0] = x;
            groupOf[x] = g;
            int found = 1;
            for (int i = 0; i < found && i < MOST_LETTERS; i++) {
                for (int y = x + 1; y < heap.letters && found < MOST_LETTERS; y++) {
                    if (groupOf[y] == NONE && shareText(members[i], y)) {
                        members[found] = y;
                        groupOf[y] = g;
                        found++;
                    }
                }
            }
            return found;
        }

        private boolean isOfPiece(int x, int line) {
            int spot = spotOf(x, line);
            return kin.isSeen(x) && heap.depth[spot] == 1 && kin.held[spot] == NONE;
        }

        private boolean hasPiece(int x) {
            for (int line = 0; line < heap.lines[x]; line++) {
                if (isOfPiece(x, line)) {
                    return true;
                }
            }
            return false;
        }

        private boolean shareText(int x, int y) {
            for (int line = 0; line < heap.lines[x]; line++) {
                if (isOfPiece(x, line) && pieceHas(y, heap.text[spotOf(x, line)])) {
                    return true;
                }
            }
            return false;
        }

        private boolean pieceHas(int y, long text) {
            for (int line = 0; line < heap.lines[y]; line++) {
                if (heap.text[spotOf(y, line)] == text && isOfPiece(y, line)) {
                    return true;
                }
            }
            return false;
        }

        int rowLength(int g) {
            makeRow(g);
            return finder.rowLength;
        }

        long rowText(int g, int i) {
            makeRow(g);
            return i >= 0 && i < finder.rowLength ? finder.row[i] : Texts.EMPTY;
        }

        private void makeRow(int g) {
            if (groupOfRow == g) {
                return;
            }
            finder.start();
            for (int x = 0; x < heap.letters; x++) {
                if (groupOf[x] == g) {
                    handOverPiece(x);
                }
            }
            finder.findRow();
            groupOfRow = g;
        }

        private void handOverPiece(int x) {
            finder.addPiece();
            for (int line = 0; line < heap.lines[x]; line++) {
                if (isOfPiece(x, line)) {
                    finder.addText(heap.text[spotOf(x, line)]);
                }
            }
        }
    }

    /**
     * The shortest row in which all pieces stand, the first of these by texts. A state says how many texts of each
     * piece are behind, four bits for a piece; a text of the row carries every piece that goes on with it. States are
     * gone through breadth first, the lesser text first: so within one length they come in the order of their rows
     * (a row leads to one state alone), and the first way to the end is the row that is sought.
     */
    private static final class RowFinder {
        private static final int PIECE_BITS = 4;
        private static final int POSITION_MASK = 15;
        private static final int STATE_BITS = 16;
        private static final int STATE_MASK = 65535;
        private static final int MOST_TEXTS = MOST_PIECES * MOST_LINES;
        private static final long NO_TEXT = -1L;

        private final long[] texts = new long[MOST_TEXTS];
        private final int[] lengths = new int[MOST_PIECES];
        private final long[] heads = new long[MOST_PIECES];
        final long[] row = new long[MOST_TEXTS];
        int rowLength;
        private int pieces;
        /** For each state that was come to: the step that led there, and the state that waits behind it. */
        private int[] cells = new int[1 << PIECE_BITS];

        void start() {
            pieces = 0;
        }

        void addPiece() {
            if (pieces < MOST_PIECES) {
                lengths[pieces] = 0;
                pieces++;
            }
        }

        void addText(long text) {
            int piece = pieces - 1;
            if (piece >= 0 && lengths[piece] < MOST_LINES) {
                texts[MOST_LINES * piece + lengths[piece]] = text;
                lengths[piece]++;
            }
        }

        void findRow() {
            int end = 0;
            for (int piece = 0; piece < pieces; piece++) {
                end |= lengths[piece] << PIECE_BITS * piece;
            }
            // larger cells only when more pieces need them: most objects never do
            int size = 1 << PIECE_BITS * pieces;
            if (cells.length < size) {
                cells = new int[size];
            }
            int at = 0;
            int last = 0;
            for (int visited = 0; visited < size && cells[end] == 0; visited++) {
                last = goOn(at, last);
                at = cells[at] & STATE_MASK;
            }
            writeRow(end);
            wipe();
        }

        /** Puts the states behind this one at the end of those that wait: the new last one. */
        private int goOn(int at, int oldLast) {
            for (int piece = 0; piece < pieces; piece++) {
                int position = positionOf(at, piece);
                heads[piece] = position < lengths[piece] ? texts[MOST_LINES * piece + position] : NO_TEXT;
            }
            int last = oldLast;
            long text = leastHeadAbove(NO_TEXT);
            for (int round = 0; round < pieces && text != NO_TEXT; round++) {
                int step = stepBy(text);
                int next = at + step;
                if (next < cells.length && cells[next] == 0) {
                    cells[next] = step << STATE_BITS;
                    cells[last] |= next;
                    last = next;
                }
                text = leastHeadAbove(text);
            }
            return last;
        }

        private static int positionOf(int state, int piece) {
            return state >>> PIECE_BITS * piece & POSITION_MASK;
        }

        private long leastHeadAbove(long text) {
            long least = NO_TEXT;
            for (int piece = 0; piece < pieces; piece++) {
                if (heads[piece] > text && (least == NO_TEXT || heads[piece] < least)) {
                    least = heads[piece];
                }
            }
            return least;
        }

        private int stepBy(long text) {
            int step = 0;
            for (int piece = 0; piece < pieces; piece++) {
                if (heads[piece] == text) {
                    step |= 1 << PIECE_BITS * piece;
                }
            }
            return step;
        }

        private void writeRow(int end) {
            rowLength = 0;
            for (int at = end; at > 0 && rowLength < MOST_TEXTS; at -= cells[at] >>> STATE_BITS) {
                rowLength++;
            }
            int at = end;
            for (int i = rowLength - 1; i >= 0 && at > 0; i--) {
                int step = cells[at] >>> STATE_BITS;
                at -= step;
                row[i] = textOfStep(at, step);
            }
        }

        private long textOfStep(int from, int step) {
            for (int piece = 0; piece < pieces; piece++) {
                int position = positionOf(from, piece);
                if (positionOf(step, piece) == 1 && position < lengths[piece]) {
                    return texts[MOST_LINES * piece + position];
                }
            }
            return Texts.EMPTY;
        }

        /** Only what was come to is wiped, so that a small search stays small. */
        private void wipe() {
            int at = 0;
            for (int wiped = 0; wiped < cells.length; wiped++) {
                int next = cells[at] & STATE_MASK;
                cells[at] = 0;
                if (next == 0) {
                    return;
                }
                at = next;
            }
        }
    }

    /** The pattern that is sought. */
    private static final class Pattern {
        private final int[] signs = new int[MOST_SIGNS];
        int length;

        /** There must be room: length below MOST_SIGNS. */
        int addSign(int w) {
            if (length < MOST_SIGNS) {
                signs[length] = w;
                length++;
            }
            return length;
        }

        boolean standsIn(long text) {
            int words = Texts.wordsIn(text);
            for (int from = 0; from + length <= words; from++) {
                if (standsAt(text, from)) {
                    return true;
                }
            }
            return false;
        }

        private boolean standsAt(long text, int from) {
            for (int k = 0; k < length; k++) {
                if (signs[k] != 0 && signs[k] != Texts.wordAt(text, from + k)) {
                    return false;
                }
            }
            return true;
        }
    }

    /** The text of rules as it is fed, and what the latest reading made of it. */
    private static final class RuleText {
        private final int[] bytes = new int[MOST_BYTES];
        final int[] value = new int[KINDS];
        int length;
        int faultAt = NONE;
        int faultKind;
        private int position;
        private int toldKinds;

        /** There must be room for n bytes. */
        int addBytes(int n, long packed) {
            for (int k = n - 1; k >= 0 && length < MOST_BYTES; k--) {
                bytes[length] = (int) (packed >>> 8 * k) & 255;
                length++;
            }
            return length;
        }

        /** How many clauses; faultAt is NONE if all of them could be read. */
        int readClauses() {
            System.arraycopy(FIRST_RULES, 0, value, 0, KINDS);
            position = 0;
            toldKinds = 0;
            faultAt = NONE;
            faultKind = 0;
            int clauses = 0;
            skipBlanks();
            while (clauses < MOST_BYTES && position < length && readClause()) {
                clauses++;
                skipBlanks();
            }
            return clauses;
        }

        private boolean readClause() {
            int start = position;
            int end = endOfWord();
            int kind = kindOf(start, end);
            if (kind == NONE) {
                return blame(CANNOT_STAND, start);
            }
            if ((toldKinds >>> kind & 1) != 0) {
                return blame(TOLD_ALREADY, start);
            }
            toldKinds |= 1 << kind;
            position = end;
            skipBlanks();
            boolean isRead = kind == TRUST ? readYes() : readNumber(kind);
            return isRead && readSemicolon();
        }

        private boolean readYes() {
            int end = endOfWord();
            boolean isYes = isWord(position, end, "yes");
            if (!isYes && !isWord(position, end, "no")) {
                return blame(CANNOT_STAND, position);
            }
            value[TRUST] = isYes ? 1 : 0;
            position = end;
            return true;
        }

        private boolean readNumber(int kind) {
            int start = position;
            int number = 0;
            while (position < length && isFigure(bytes[position])) {
                if (position - start < 3) {
                    number = 10 * number + bytes[position] - '0';
                }
                position++;
            }
            if (position == start) {
                return blame(CANNOT_STAND, start);
            }
            if (position - start > 3 || number > RULE_BOUNDS[kind]) {
                return blame(BAD_NUMBER, start);
            }
            value[kind] = number;
            return true;
        }

        private boolean readSemicolon() {
            skipBlanks();
            if (position >= length || bytes[position] != ';') {
                return blame(CANNOT_STAND, position);
            }
            position++;
            return true;
        }

        private boolean blame(int kind, int at) {
            faultKind = kind;
            faultAt = at;
            return false;
        }

        private void skipBlanks() {
            while (position < length && bytes[position] == ' ') {
                position++;
            }
        }

        private int endOfWord() {
            int end = position;
            while (end < length && bytes[end] >= 'a' && bytes[end] <= 'z') {
                end++;
            }
            return end;
        }

        private static boolean isFigure(int sign) {
            return sign >= '0' && sign <= '9';
        }

        private int kindOf(int start, int end) {
            for (int kind = 0; kind < KINDS; kind++) {
                if (isWord(start, end, nameOf(kind))) {
                    return kind;
                }
            }
            return NONE;
        }

        private static String nameOf(int kind) {
            switch (kind) {
                case NEAR:
                    return "near";
                case FIT:
                    return "fit";
                case TRUST:
                    return "trust";
                case KEEP:
                    return "keep";
                default:
                    return "deep";
            }
        }

        private boolean isWord(int start, int end, String name) {
            if (end - start != name.length()) {
                return false;
            }
            for (int k = 0; k < name.length(); k++) {
                if (bytes[start + k] != name.charAt(k)) {
                    return false;
                }
            }
            return true;
        }
    }
}
