import java.util.function.IntUnaryOperator;

/** Promises 1 to 30: the last number that is taken and the first that is refused on each side, the empty, the full. */
public final class PromisesTest {
    private static final Due due = new Due("PromisesTest");
    private static final int NONE = Due.NONE;
    /** 14 times this wraps around to 10: a place that is reckoned before it is tested would be found. */
    private static final int WRAPPING = 306783379;
    private static final int[] NO_LETTERS = {Due.MIN, -2, -1, 4, 5, 40, 64, WRAPPING, Due.MAX};

    public static void main(String[] args) {
        aNewObject();
        word();
        letter();
        line();
        draftStays();
        answer();
        take();
        put();
        known();
        knownAlsoThoseToCome();
        about();
        aboutUnseen();
        told();
        differ();
        fit();
        count();
        countFull();
        origin();
        altered();
        echoes();
        group();
        lost();
        lostWord();
        order();
        quarrel();
        span();
        sign();
        clear();
        seek();
        still();
        feed();
        feedBytes();
        read();
        fault();
        rule();
        foundAnewAfterEachChange();
        due.end();
    }

    /** Numbers from first to last are taken, those ahead of and behind them are refused. */
    private static void bounds(String call, int first, int last, int refusal, IntUnaryOperator asked) {
        int[] wrong = {Due.MIN, first - 2, first - 1, last + 1, last + 2, last + 256, WRAPPING, Due.MAX};
        for (int n : wrong) {
            due.is(call + " with " + n, asked.applyAsInt(n), refusal);
        }
        for (int n = first; n <= last; n++) {
            due.holds(call + " with " + n + " is taken", asked.applyAsInt(n) >= NONE);
        }
    }

    /**
     * Letter 0 of day 20 with two own lines; 1 without a day answers it, quotes one line and one that there is not,
     * and has an own line; 2 of day 10 answers 1; 3 is taken back.
     */
    private static Counted some() {
        Counted q = new Counted();
        q.letter(3, 20, NONE);
        Due.tell(q, 0, 0, 1, 2);
        Due.tell(q, 0, 0, 3);
        q.letter(4, NONE, 0);
        Due.tell(q, 1, 1, 3);
        Due.tell(q, 1, 1, 9);
        Due.tell(q, 1, 0, 5);
        q.letter(5, 10, 1);
        Due.tell(q, 2, 2, 3);
        q.letter(6, 30, 0);
        Due.tell(q, 3, 1, 9);
        Due.tell(q, 3, 0, 1);
        q.take(3);
        return q;
    }

    private static Counted allSeen() {
        Counted q = some();
        q.put(3);
        return q;
    }

    private static void days(String call, IntUnaryOperator asked) {
        for (int day : new int[] {Due.MIN, -2, 10000, 10001, Due.MAX}) {
            due.is(call + " of day " + day, asked.applyAsInt(day), Due.OUTSIDE);
        }
        for (int day : new int[] {NONE, 0, 1, 9998, 9999}) {
            due.is(call + " of day " + day, asked.applyAsInt(day), 4);
        }
    }

    private static Counted fortyLetters() {
        Counted q = new Counted();
        for (int x = 0; x < 40; x++) {
            q.letter(0, NONE, NONE);
        }
        return q;
    }

    private static void aNewObject() {
        due.sentence("No LETTERS; RULES as at first; all known");
        Counted q = new Counted();
        int[] counts = {0, 0, 0, 0, 0, 0, 0, 0, 0, 0, NONE};
        for (int what = 0; what < counts.length; what++) {
            due.is("count(" + what + ")", q.count(what), counts[what]);
        }
        int[] rules = {0, 50, 1, 14, 5};
        for (int what = 0; what < rules.length; what++) {
            due.is("rule(" + what + ")", q.rule(what), rules[what]);
        }
        int[] ofLetters = {q.line(0, 0), q.answer(0, 0, 0), q.take(0), q.put(0), q.about(0, 0), q.told(0, 0, 0),
            q.differ(0, 0, 0, 0), q.fit(0, 0), q.fit(0, 1), q.origin(0, 0, 0), q.altered(0, 0), q.echoes(0, 0),
            q.group(0), q.lost(0, 0), q.lostWord(0, 0, 0), q.span(0, 0), q.still(0), q.letter(0, 0, 0)};
        for (int k = 0; k < ofLetters.length; k++) {
            due.is("no letter 0, call " + k, ofLetters[k], Due.UNKNOWN);
        }
        due.is("order(0)", q.order(0), NONE);
        due.is("quarrel(0)", q.quarrel(0), NONE);
        due.is("seek", q.seek(NONE, 0, NONE), Due.NOT);
        due.is("fault", q.fault(), NONE);
        due.is("clear", q.clear(), 0);
        due.is("read", q.read(), 0);
        q.letter(0, NONE, NONE);
        due.is("what comes is seen", q.about(0, 5), 1);
        Counted other = new Counted();
        due.is("another new object has none of this", other.count(0), 0);
    }

    private static void word() {
        due.sentence("A WORD more of THE DRAFT: how many it has. OUTSIDE (1 .. 63), FULL: 8");
        bounds("word", 1, 63, Due.OUTSIDE, n -> new Counted().word(n));
        Counted q = some();
        for (int k = 1; k <= 8; k++) {
            due.is("words", q.word(k), k);
            due.is("count", q.count(2), k);
        }
        due.is("the ninth", q.word(9), Due.FULL);
        due.is("and again", q.word(9), Due.FULL);
        q.line(0, 0);
        due.is("of the next draft", q.word(9), 1);
        due.is("the full one", q.told(0, 2, 9), 8);
    }

    private static void letter() {
        due.sentence("A LETTER without LINES: its number. UNKNOWN (what it NAMES: NONE, or one told already), OUTSIDE");
        bounds("letter: writer", 0, 9, Due.OUTSIDE, n -> some().letter(n, 0, NONE));
        days("letter", day -> some().letter(0, day, NONE));
        bounds("letter: names", NONE, 3, Due.UNKNOWN, n -> some().letter(0, 0, n));
        Counted q = some();
        q.word(7);
        due.is("its number", q.letter(9, 9999, 3), 4);
        int[] about = {9, 9999, 3, 0, 0, 1};
        for (int what = 0; what < about.length; what++) {
            due.is("about(4, " + what + ")", q.about(4, what), about[what]);
        }
        due.is("the draft is not its line", q.count(2), 1);
    }

    private static void line() {
        due.sentence("A LINE of THE DRAFT (it is empty then; a TEXT may be empty) at the end of a LETTER: its number");
        bounds("line: letter", 0, 3, Due.UNKNOWN, n -> some().line(n, 0));
        bounds("line: depth", 0, 5, Due.OUTSIDE, n -> some().line(0, n));
        Counted q = some();
        q.word(7);
        q.word(8);
        due.is("its number", q.line(0, 4), 2);
        due.is("its words", q.told(0, 2, 1), 2);
        due.is("its last word", q.told(0, 2, 3), 8);
        due.is("the draft is empty then", q.count(2), 0);
        due.is("an empty text", q.line(0, 4), 3);
        due.is("its words", q.told(0, 3, 1), 0);
        due.is("its first word", q.told(0, 3, 2), NONE);
    }

    private static void draftStays() {
        due.sentence("FULL: 14 (THE DRAFT stays)");
        Counted q = new Counted();
        q.letter(0, NONE, NONE);
        q.letter(0, NONE, NONE);
        for (int line = 0; line < 14; line++) {
            due.is("line " + line, q.line(0, 0), line);
        }
        q.word(7);
        q.word(8);
        due.is("line 14", q.line(0, 0), Due.FULL);
        due.is("words of the draft", q.count(2), 2);
        due.is("it goes to another letter", q.line(1, 0), 0);
        due.is("its first word", q.told(1, 0, 2), 7);
        due.is("its second word", q.told(1, 0, 3), 8);
    }

    private static void answer() {
        due.sentence("AN ANSWER to a LETTER (SEEN or not): the new LETTER's number. UNKNOWN, OUTSIDE, FULL");
        bounds("answer: letter", 0, 3, Due.UNKNOWN, n -> some().answer(n, 0, NONE));
        bounds("answer: writer", 0, 9, Due.OUTSIDE, n -> some().answer(0, n, NONE));
        days("answer", day -> some().answer(0, 0, day));
        Counted q = some();
        due.is("to one that is taken back", q.about(q.answer(3, 8, 40), 3), 2);
        due.is("its parent is what fits, not what it names", q.about(4, 6), 1);
        q.known(0);
        due.is("to one that is not known", q.about(q.answer(0, 8, 40), 3), 2);
        due.is("it is not known itself", q.about(5, 5), 0);
        due.is("to the answer", q.answer(5, 0, 0), 6);
        due.is("full", fortyLetters().answer(0, 0, 0), Due.FULL);
    }

    private static void take() {
        due.sentence("A LETTER is TAKEN BACK: 1. UNKNOWN; NOT: it is");
        bounds("take", 0, 3, Due.UNKNOWN, n -> allSeen().take(n));
        due.is("taken already", some().take(3), Due.NOT);
        Counted q = some();
        due.is("take", q.take(0), 1);
        due.is("again", q.take(0), Due.NOT);
        due.is("it is as before", q.about(0, 5), 0);
        Counted full = fortyLetters();
        for (int x : new int[] {40, 64, 32 + 64, -1, -24}) {
            due.is("take(" + x + ") of forty", full.take(x), Due.UNKNOWN);
        }
        due.is("all are seen", full.count(1), 40);
        due.is("the last", full.take(39), 1);
        due.is("32", full.take(32), 1);
        due.is("0 is seen", full.about(0, 5), 1);
        due.is("seen", full.count(1), 38);
    }

    private static void put() {
        due.sentence("It is put back: 1. UNKNOWN; NOT: it is not TAKEN BACK");
        for (int x : NO_LETTERS) {
            due.is("put(" + x + ")", some().put(x), Due.UNKNOWN);
        }
        for (int x = 0; x <= 2; x++) {
            due.is("put(" + x + "), which is not taken back", some().put(x), Due.NOT);
        }
        Counted q = some();
        due.is("put(3)", q.put(3), 1);
        due.is("again", q.put(3), Due.NOT);
        due.is("it is as before", q.about(3, 5), 1);
        q.known(0);
        due.is("not known is not taken back", q.put(3), Due.NOT);
        due.is("and may be taken back", q.take(3), 1);
    }

    private static void known() {
        due.sentence("Only k LETTERS are known from now on (NONE: all, also those to come): k. OUTSIDE: above those there are");
        bounds("known", NONE, 4, Due.OUTSIDE, n -> some().known(n));
        bounds("known of none", NONE, 0, Due.OUTSIDE, n -> new Counted().known(n));
        bounds("known of forty", NONE, 40, Due.OUTSIDE, n -> fortyLetters().known(n));
        for (int k = NONE; k <= 4; k++) {
            Counted q = some();
            due.is("known(" + k + ")", q.known(k), k);
            due.is("count(10)", q.count(10), k);
            due.is("what is refused", q.known(5), Due.OUTSIDE);
            due.is("it stays", q.count(10), k);
        }
    }

    private static void knownAlsoThoseToCome() {
        due.sentence("(NONE: all, also those to come)");
        Counted q = new Counted();
        q.letter(0, NONE, NONE);
        q.known(1);
        q.letter(0, NONE, NONE);
        q.answer(0, 0, NONE);
        due.is("known by 1: those to come are not", q.count(1), 1);
        q.known(NONE);
        due.is("all", q.count(1), 3);
        q.letter(0, NONE, NONE);
        q.answer(0, 0, NONE);
        due.is("those to come too", q.count(1), 5);
        due.is("k", q.count(10), NONE);
    }

    private static void about() {
        due.sentence("what = 0 WRITER, 1 DAY, .. 11 FIT of its PARENT");
        bounds("about: letter", 0, 3, Due.UNKNOWN, n -> some().about(n, 0));
        bounds("about: what", 0, 11, Due.OUTSIDE, n -> some().about(0, n));
        int[][] due4 = {{3, 20, NONE, 2, 0, 1, NONE, 0, 0, 1, 3, NONE}, {4, NONE, 0, 3, 2, 1, 0, 0, 1, 1, 3, 1},
            {5, 10, 1, 1, 1, 1, 1, 0, 2, 0, 3, 1}, {6, 30, 0, 2, 1, 0, NONE, NONE, NONE, NONE, NONE, NONE}};
        Counted q = some();
        for (int x = 0; x < 4; x++) {
            for (int what = 0; what <= 11; what++) {
                due.is("about(" + x + ", " + what + ")", q.about(x, what), due4[x][what]);
            }
        }
    }

    private static void aboutUnseen() {
        due.sentence("(NONE of 6 to 11: it is not SEEN, of 6 and 11 also: it has none)");
        Counted q = some();
        q.put(3);
        q.known(3);
        for (int what = 6; what <= 11; what++) {
            due.is("not known: about(3, " + what + ")", q.about(3, what), NONE);
        }
        due.is("not known, and outside", q.about(3, 12), Due.OUTSIDE);
        q.known(NONE);
        int[] seen = {0, 0, 1, 0, 4, 0};
        for (int what = 6; what <= 11; what++) {
            due.is("known: about(3, " + what + ")", q.about(3, what), seen[what - 6]);
        }
        Counted lone = new Counted();
        lone.letter(0, NONE, NONE);
        int[] alone = {NONE, 0, 0, 0, 1, NONE};
        for (int what = 6; what <= 11; what++) {
            due.is("alone: about(0, " + what + ")", lone.about(0, what), alone[what - 6]);
        }
    }

    private static void told() {
        due.sentence("Of a LINE: what = 0 DEPTH, 1 WORDS, 2 and k the k-th WORD (k 0 .. 7; NONE). UNKNOWN, OUTSIDE");
        bounds("told: letter", 0, 3, Due.UNKNOWN, n -> some().told(n, 0, 0));
        bounds("told: line", 0, 2, Due.UNKNOWN, n -> some().told(1, n, 0));
        bounds("told: what", 0, 9, Due.OUTSIDE, n -> some().told(0, 0, n));
        due.is("a line of the next letter", some().told(0, 14, 0), Due.UNKNOWN);
        due.is("a line of the letter ahead", some().told(1, -14, 0), Due.UNKNOWN);
        due.is("wrapped around", some().told(WRAPPING, -10, 0), Due.UNKNOWN);
        for (int words = 0; words <= 8; words++) {
            Counted q = new Counted();
            q.letter(0, NONE, NONE);
            for (int k = 0; k < words; k++) {
                q.word(63 - k);
            }
            q.line(0, 5);
            due.is("depth", q.told(0, 0, 0), 5);
            due.is("words", q.told(0, 0, 1), words);
            for (int k = 0; k <= 7; k++) {
                due.is("word " + k + " of " + words, q.told(0, 0, 2 + k), k < words ? 63 - k : NONE);
            }
        }
    }

    private static void differ() {
        due.sentence("By how many WORDS TEXTS of two LINES differ. UNKNOWN");
        bounds("differ: x", 0, 3, Due.UNKNOWN, n -> some().differ(n, 0, 0, 0));
        bounds("differ: line", 0, 1, Due.UNKNOWN, n -> some().differ(0, n, 0, 0));
        bounds("differ: y", 0, 3, Due.UNKNOWN, n -> some().differ(0, 0, n, 0));
        bounds("differ: other", 0, 2, Due.UNKNOWN, n -> some().differ(0, 0, 1, n));
        Counted q = some();
        due.is("in one letter", q.differ(0, 0, 0, 1), 2);
        due.is("with itself", q.differ(0, 0, 0, 0), 0);
        due.is("of one that is not seen, of other depth", q.differ(3, 0, 1, 1), 0);
    }

    private static void fit() {
        due.sentence("FIT of y for x. UNKNOWN; NOT: x is y, or one is not SEEN");
        Counted q = some();
        for (int n : NO_LETTERS) {
            due.is("fit of 0 for " + n, q.fit(n, 0), Due.UNKNOWN);
            due.is("fit of " + n + " for 0", q.fit(0, n), Due.UNKNOWN);
            due.is("fit of " + n + " for itself", q.fit(n, n), Due.UNKNOWN);
        }
        due.is("a pair", q.fit(1, 0), 1);
        due.is("no pair", q.fit(0, 1), 0);
        for (int x = 0; x <= 3; x++) {
            due.is("fit of itself", q.fit(x, x), Due.NOT);
            due.is("x is not seen", q.fit(3, x), Due.NOT);
            due.is("y is not seen", q.fit(x, 3), Due.NOT);
        }
        q.known(1);
        due.is("y is not known", q.fit(0, 1), Due.NOT);
        due.is("x is not known", q.fit(1, 0), Due.NOT);
        due.is("neither is known", q.fit(1, 2), Due.NOT);
    }

    private static void count() {
        due.sentence("How many: 0 LETTERS, 1 SEEN, .. 10 k known (NONE). OUTSIDE");
        bounds("count", 0, 10, Due.OUTSIDE, n -> some().count(n));
        Counted q = some();
        q.word(1);
        q.sign(1);
        q.sign(2);
        Due.feed(q, "abc");
        int[] counts = {4, 3, 1, 1, 0, 1, 1, 0, 2, 3, NONE};
        for (int what = 0; what <= 10; what++) {
            due.is("count(" + what + ")", q.count(what), counts[what]);
        }
    }

    private static void countFull() {
        due.sentence("2 WORDS of THE DRAFT, .. 8 WORDS of THE PATTERN, 9 bytes of THE TEXT, 10 k known");
        Counted q = fortyLetters();
        for (int k = 0; k < 10; k++) {
            q.word(1);
            q.sign(1);
        }
        Due.feed(q, " ".repeat(128));
        q.known(40);
        int[] full = {40, 40, 8, 40, 0, 0, 0, 0, 4, 120, 40};
        for (int what = 0; what <= 10; what++) {
            due.is("count(" + what + ")", q.count(what), full[what]);
        }
    }

    private static void origin() {
        due.sentence("ORIGIN of a LINE: what = 0 its LETTER, 1 its LINE, 2 its WRITER; NONE: it is UNFOUND");
        bounds("origin: letter", 0, 3, Due.UNKNOWN, n -> allSeen().origin(n, 0, 0));
        bounds("origin: line", 0, 2, Due.UNKNOWN, n -> some().origin(1, n, 0));
        bounds("origin: what", 0, 2, Due.OUTSIDE, n -> some().origin(1, 0, n));
        Counted q = some();
        int[] found = {0, 1, 3};
        for (int what = 0; what <= 2; what++) {
            due.is("found, what " + what, q.origin(2, 0, what), found[what]);
            due.is("unfound, what " + what, q.origin(1, 1, what), NONE);
        }
        due.is("not seen", q.origin(3, 0, 0), Due.NOT);
        due.is("not seen, an own line", q.origin(3, 1, 0), Due.NOT);
        q.known(1);
        due.is("not known", q.origin(1, 0, 0), Due.NOT);
    }

    private static void altered() {
        due.sentence("Whether a LINE is ALTERED (1, 0). UNKNOWN, NOT: the LETTER is not SEEN");
        bounds("altered: letter", 0, 3, Due.UNKNOWN, n -> allSeen().altered(n, 0));
        bounds("altered: line", 0, 2, Due.UNKNOWN, n -> some().altered(1, n));
        Counted q = some();
        due.is("not seen", q.altered(3, 0), Due.NOT);
        q.known(1);
        due.is("not known", q.altered(1, 0), Due.NOT);
        q.known(NONE);
        due.is("as it was written", q.altered(1, 0), 0);
        due.is("unfound", q.altered(1, 1), 0);
        Due.tell(q, 1, 1, 1, 8);
        Due.rules(q, "near 1;");
        due.is("otherwise", q.altered(1, 3), 1);
    }

    private static void echoes() {
        due.sentence("How many LINES of SEEN LETTERS (itself too, if it is SEEN) have a LINE as their ORIGIN. UNKNOWN");
        bounds("echoes: letter", 0, 3, Due.UNKNOWN, n -> some().echoes(n, 0));
        bounds("echoes: line", 0, 2, Due.UNKNOWN, n -> some().echoes(1, n));
        Counted q = some();
        due.is("itself and two", q.echoes(0, 1), 3);
        due.is("itself alone", q.echoes(0, 0), 1);
        due.is("a quoted line", q.echoes(1, 0), 0);
        due.is("an own line that is not seen", q.echoes(3, 1), 0);
        q.known(1);
        due.is("itself, as known", q.echoes(0, 1), 1);
        q.known(0);
        due.is("none is known", q.echoes(0, 1), 0);
    }

    private static void group() {
        due.sentence("Which GROUP a LETTER's PIECE is in; NONE: it has none, or is not SEEN. UNKNOWN");
        bounds("group", 0, 3, Due.UNKNOWN, n -> some().group(n));
        Counted q = some();
        int[] groups = {NONE, 0, NONE, NONE};
        for (int x = 0; x <= 3; x++) {
            due.is("group(" + x + ")", q.group(x), groups[x]);
        }
        q.put(3);
        due.is("put back", q.group(3), 0);
        q.known(1);
        due.is("not known", q.group(1), NONE);
    }

    private static void lost() {
        due.sentence("Of a LOST LETTER (a GROUP): what = 0 PIECES, 1 its least LETTER, 2 TEXTS of its row (LARGE)");
        bounds("lost: group", 0, 0, Due.UNKNOWN, n -> some().lost(n, 0));
        bounds("lost: what", 0, 2, Due.OUTSIDE, n -> some().lost(0, n));
        Counted q = some();
        int[] lost = {1, 1, 1};
        for (int what = 0; what <= 2; what++) {
            due.is("lost(0, " + what + ")", q.lost(0, what), lost[what]);
        }
        q.put(3);
        due.is("two pieces", q.lost(0, 0), 2);
        due.is("in one text", q.lost(0, 2), 1);
        q.known(0);
        due.is("none is known", q.lost(0, 0), Due.UNKNOWN);
    }

    private static void lostWord() {
        due.sentence("WORD k (0 .. 7) of TEXT i of a LOST LETTER; k = NONE: how many it has; NONE: there is none such");
        bounds("lostWord: group", 0, 0, Due.UNKNOWN, n -> some().lostWord(n, 0, 0));
        for (int words = 0; words <= 8; words++) {
            Counted q = new Counted();
            Due.letterOf(q, 1, 60);
            for (int k = 0; k < words; k++) {
                q.word(k + 1);
            }
            q.line(0, 1);
            due.is("how many of " + words, q.lostWord(0, 1, NONE), words);
            for (int k = 0; k <= 7; k++) {
                due.is("word " + k + " of " + words, q.lostWord(0, 1, k), k < words ? k + 1 : NONE);
            }
            for (int k : new int[] {Due.MIN, -2, 8, 9, 64, Due.MAX}) {
                due.is("word " + k + " of " + words, q.lostWord(0, 1, k), NONE);
            }
            for (int i : new int[] {Due.MIN, -1, 2, 3, 64, WRAPPING, Due.MAX}) {
                due.is("text " + i + ", a word", q.lostWord(0, i, 0), NONE);
                due.is("text " + i + ", how many", q.lostWord(0, i, NONE), NONE);
            }
            due.is("text 0", q.lostWord(0, 0, 0), 60);
        }
        Counted q = some();
        due.is("asked for first", q.lostWord(0, 0, 0), 9);
    }

    private static void order() {
        due.sentence("The i-th LETTER in ORDER; NONE");
        Counted q = some();
        for (int i = 0; i < 3; i++) {
            due.is("order(" + i + ")", q.order(i), i);
        }
        for (int i : new int[] {Due.MIN, -2, -1, 3, 4, 5, 40, 64, WRAPPING, Due.MAX}) {
            due.is("order(" + i + ")", q.order(i), NONE);
        }
        Counted full = fortyLetters();
        due.is("the last of forty", full.order(39), 39);
        due.is("behind it", full.order(40), NONE);
    }

    private static void quarrel() {
        due.sentence("The i-th QUARREL (LETTERS by numbers); NONE");
        Counted q = some();
        q.letter(0, 5, 0);
        q.letter(0, 6, 2);
        q.letter(0, 20, 0);
        due.is("quarrel(0)", q.quarrel(0), 4);
        due.is("quarrel(1)", q.quarrel(1), 5);
        for (int i : new int[] {Due.MIN, -2, -1, 2, 3, 7, 40, 64, WRAPPING, Due.MAX}) {
            due.is("quarrel(" + i + ")", q.quarrel(i), NONE);
        }
        q.take(4);
        due.is("of those that are seen", q.quarrel(0), 5);
    }

    private static void span() {
        due.sentence("SPAN of a LETTER: what = 0 the least, 1 the greatest DAY. UNKNOWN, OUTSIDE, NOT: it is not SEEN");
        bounds("span: letter", 0, 3, Due.UNKNOWN, n -> allSeen().span(n, 0));
        bounds("span: what", 0, 1, Due.OUTSIDE, n -> some().span(1, n));
        bounds("span: what, of one with a day", 0, 1, Due.OUTSIDE, n -> some().span(0, n));
        Counted q = some();
        due.is("the least", q.span(1, 0), 20);
        due.is("the greatest", q.span(1, 1), 10);
        due.is("not seen", q.span(3, 0), Due.NOT);
        due.is("not seen", q.span(3, 1), Due.NOT);
        q.known(1);
        due.is("not known", q.span(1, 0), Due.NOT);
        due.is("of the first, with a day", q.span(0, 1), 20);
    }

    private static void sign() {
        due.sentence("A WORD more of THE PATTERN (0: any): how many it has. OUTSIDE, FULL: 4");
        bounds("sign", 0, 63, Due.OUTSIDE, n -> new Counted().sign(n));
        Counted q = some();
        for (int k = 1; k <= 4; k++) {
            due.is("signs", q.sign(0), k);
            due.is("count", q.count(8), k);
        }
        due.is("the fifth", q.sign(0), Due.FULL);
        due.is("count", q.count(8), 4);
    }

    private static void clear() {
        due.sentence("THE PATTERN is empty: how many WORDS it had");
        Counted q = some();
        for (int had = 0; had <= 4; had++) {
            for (int k = 0; k < had; k++) {
                q.sign(50);
            }
            due.is("clear", q.clear(), had);
            due.is("count", q.count(8), 0);
            due.is("seek", q.seek(NONE, 0, NONE), Due.NOT);
        }
        due.is("a new pattern", q.sign(3), 1);
        due.is("has nothing of the old", q.seek(NONE, 0, NONE), 3);
    }

    private static void seek() {
        due.sentence("i = NONE how many PLACES, else 14 times the LETTER and the LINE of the i-th; NONE: there is none such");
        bounds("seek: writer", NONE, 9, Due.OUTSIDE, n -> {
            Counted q = some();
            q.sign(3);
            return q.seek(n, 0, NONE);
        });
        bounds("seek: where", 0, 2, Due.OUTSIDE, n -> {
            Counted q = some();
            q.sign(3);
            return q.seek(NONE, n, NONE);
        });
        Counted q = some();
        due.is("the pattern is empty", q.seek(NONE, 0, NONE), Due.NOT);
        q.sign(3);
        int[] places = {1, 14, 28};
        due.is("how many", q.seek(NONE, 0, NONE), places.length);
        for (int i = 0; i < places.length; i++) {
            due.is("the " + i + "-th", q.seek(NONE, 0, i), places[i]);
        }
        for (int i : new int[] {Due.MIN, -3, -2, 3, 4, 64, WRAPPING, Due.MAX}) {
            due.is("the " + i + "-th", q.seek(NONE, 0, i), NONE);
        }
        due.is("none by 9", q.seek(9, 0, NONE), 0);
        due.is("the first of none", q.seek(9, 0, 0), NONE);
        lastPlace();
    }

    private static void lastPlace() {
        Counted q = fortyLetters();
        for (int line = 0; line < 13; line++) {
            q.line(39, 0);
        }
        Due.tell(q, 39, 0, 1, 2, 3, 4, 5, 6, 7, 8);
        q.sign(8);
        due.is("the last line of the last letter", q.seek(NONE, 0, 0), 559);
    }

    private static void still() {
        due.sentence("STILL THERE: the SET of LINES of a LETTER. UNKNOWN; NOT: it is not TAKEN BACK");
        for (int x : NO_LETTERS) {
            due.is("still(" + x + ")", some().still(x), Due.UNKNOWN);
        }
        for (int x = 0; x <= 2; x++) {
            due.is("still(" + x + "), which is not taken back", some().still(x), Due.NOT);
        }
        Counted q = some();
        due.is("none has anything of it", q.still(3), 0);
        q.take(0);
        due.is("the second line", q.still(0), 2);
        q.known(0);
        due.is("none is known", q.still(0), 0);
        q.put(0);
        due.is("not known is not taken back", q.still(0), Due.NOT);
    }

    private static void feed() {
        due.sentence("Up to eight bytes (n 1 .. 8) of a long, .. come behind THE TEXT: how many it has. OUTSIDE, FULL");
        bounds("feed", 1, 8, Due.OUTSIDE, n -> new Counted().feed(n, 0));
        for (int n = 1; n <= 8; n++) {
            Counted q = new Counted();
            due.is("feed " + n, q.feed(n, 0), n);
            due.is("and one", q.feed(1, 0), n + 1);
            due.is("count", q.count(9), n + 1);
            Due.feed(q, " ".repeat(104));
            due.is("less than a whole feed is left", q.feed(8, 0), n + 113 > 120 ? Due.FULL : n + 113);
        }
    }

    private static void feedBytes() {
        due.sentence("Up to eight bytes (n 1 .. 8) of a long, the highest of these first");
        String text = "fit 12; ";
        for (int n = 1; n <= 8; n++) {
            Counted q = new Counted();
            for (int at = 0; at < 8; at += n) {
                int taken = Math.min(n, 8 - at);
                long bytes = -1L;
                for (int k = at; k < at + taken; k++) {
                    bytes = bytes << 8 | text.charAt(k);
                }
                q.feed(taken, bytes);
            }
            due.is("by " + n, q.read(), 1);
            due.is("fit", q.rule(1), 12);
        }
        Counted q = new Counted();
        q.feed(8, Long.MIN_VALUE | 0x206974203132L);
        due.is("the highest bit is one of the first byte", q.read(), -11);
        due.is("where", q.fault(), 0);
    }

    private static void read() {
        due.sentence("THE TEXT (it is empty then) becomes THE RULES: how many clauses; -10 less the number of its FAULT");
        String[] texts = {"", "near 1;", "near 1;fit 2;", "near 1;fit 2;trust no;", "near 1;fit 2;trust no;keep 3;",
            "near 1;fit 2;trust no;keep 3;deep 4;"};
        Counted q = new Counted();
        for (int clauses = 0; clauses <= 5; clauses++) {
            Due.feed(q, texts[clauses]);
            due.is("bytes", q.count(9), texts[clauses].length());
            due.is("read", q.read(), clauses);
            due.is("it is empty then", q.count(9), 0);
        }
        due.sentence("(THE RULES are as they were)");
        String[] faulty = {"near 2;fit 90;x", "near 2;deep 6;", "keep 9;keep 9;"};
        int[] rules = {1, 2, 0, 3, 4};
        for (int kind = 1; kind <= 3; kind++) {
            due.is("fault " + kind, Due.rules(q, faulty[kind - 1]), -10 - kind);
            due.is("it is empty then", q.count(9), 0);
            for (int what = 0; what <= 4; what++) {
                due.is("rule(" + what + ")", q.rule(what), rules[what]);
            }
        }
        due.is("a text behind a faulty one", Due.rules(q, "near 2;"), 1);
        due.is("near", q.rule(0), 2);
    }

    private static void fault() {
        due.sentence("The byte of the FAULT of the latest read(); NONE");
        Counted q = new Counted();
        due.is("no read", q.fault(), NONE);
        Due.feed(q, "near 3;");
        due.is("fed, but not read", q.fault(), NONE);
        q.read();
        due.is("the latest", q.fault(), 5);
        Due.feed(q, "fit 2");
        due.is("the next is fed, but not read", q.fault(), 5);
        q.read();
        due.is("the next, at its end", q.fault(), 5);
        Due.rules(q, "x");
        due.is("at byte 0", q.fault(), 0);
        due.is("asked again", q.fault(), 0);
        q.read();
        due.is("an empty text has none", q.fault(), NONE);
        Due.rules(q, " ".repeat(116) + "near");
        due.is("at the end of a full text", q.fault(), 120);
        Due.rules(q, "near 1;");
        due.is("a good text has none", q.fault(), NONE);
    }

    private static void rule() {
        due.sentence("Of THE RULES: what = 0 near, 1 fit, 2 trust (1, 0), 3 keep, 4 deep. OUTSIDE");
        bounds("rule", 0, 4, Due.OUTSIDE, n -> new Counted().rule(n));
        Counted q = new Counted();
        Due.rules(q, "near 2;fit 99;trust no;keep 13;deep 3;");
        int[] rules = {2, 99, 0, 13, 3};
        for (int what = 0; what <= 4; what++) {
            due.is("rule(" + what + ")", q.rule(what), rules[what]);
        }
        Due.rules(q, "trust yes;");
        due.is("trust", q.rule(2), 1);
    }

    /** What was found once must not outlive a call that changes it. */
    private static void foundAnewAfterEachChange() {
        due.sentence("all as it was known");
        Counted q = new Counted();
        Due.letterOf(q, 1, 1);
        foundIs("letter", q, NONE, 0, 1, 1);
        Due.letterOf(q, 0, 1);
        foundIs("line", q, 1, NONE, 0, 2);
        q.take(1);
        foundIs("take", q, NONE, 0, 1, 1);
        due.is("take: still", q.still(1), 1);
        q.put(1);
        foundIs("put", q, 1, NONE, 0, 2);
        q.known(1);
        foundIs("known", q, NONE, 0, 1, 1);
        q.known(2);
        foundIs("known", q, 1, NONE, 0, 2);
        Due.tell(q, 1, 1, 2);
        foundIs("line, a piece", q, 1, NONE, 1, 2);
        q.answer(0, 0, NONE);
        foundIs("answer, not known", q, 1, NONE, 1, 2);
        q.known(NONE);
        foundIs("answer", q, 1, NONE, 1, 3);
        q.answer(2, 0, NONE);
        foundIs("answer, known", q, 1, NONE, 1, 4);
        due.is("answer: its parent", q.about(3, 6), 2);
        due.is("answer: echoes", q.echoes(1, 0), 4);
        Due.rules(q, "trust no;fit 100;");
        due.is("read: its parent", q.about(3, 6), 2);
        Due.rules(q, "trust no;");
        Due.tell(q, 0, 1, 3);
        foundIs("line, another piece", q, 1, 0, 2, 4);
        Due.rules(q, "trust no;near 1;");
        foundIs("read", q, 1, NONE, 1, 4);
        due.is("read: altered", q.altered(0, 1), 1);
    }

    private static void foundIs(String call, Counted q, int parent, int group, int groups, int written) {
        due.is(call + ": parent of 0", q.about(0, 6), parent);
        due.is(call + ": group of 0", q.group(0), group);
        due.is(call + ": groups", q.count(6), groups);
        due.is(call + ": word of the first", q.lostWord(0, 0, NONE), groups == 0 ? Due.UNKNOWN : 1);
        due.is(call + ": behind the last in order", q.order(written), NONE);
        due.holds(call + ": the last in order", q.order(written - 1) != NONE);
    }
}
