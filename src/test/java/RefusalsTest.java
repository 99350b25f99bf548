import java.util.function.Supplier;
import java.util.function.ToIntFunction;

/**
 * "REFUSALS, of several the first in this order: UNKNOWN, OUTSIDE, NOT, FULL, LARGE. What is refused changes nothing."
 * Each refused call is made on one of two objects that are alike; then all that can be asked of both must be alike.
 */
public final class RefusalsTest {
    private static final Due due = new Due("RefusalsTest");
    private static final int NONE = Due.NONE;

    public static void main(String[] args) {
        due.sentence("What is refused changes nothing");
        unknownOnes();
        outsideOnes();
        notNow();
        fullOnes();
        largeOnes();
        due.sentence("REFUSALS, of several the first in this order");
        unknownAheadOfOutside();
        unknownAheadOfNot();
        unknownAheadOfFull();
        outsideAheadOfNot();
        outsideAheadOfFull();
        outsideAheadOfLarge();
        manyAtOnce();
        due.end();
    }

    /** Four letters, the last taken back, three known, a draft, a pattern, a text that is fed, a text that was faulty. */
    private static Counted some() {
        Counted q = new Counted();
        Due.rules(q, "near 1;fit 40;keep 9;");
        Due.rules(q, "near 2;deep");
        q.letter(3, 20, NONE);
        Due.tell(q, 0, 0, 1, 2);
        Due.tell(q, 0, 0, 3);
        q.letter(4, NONE, 0);
        Due.tell(q, 1, 1, 1, 4);
        Due.tell(q, 1, 1, 9, 9, 9);
        q.letter(5, 10, 1);
        Due.tell(q, 2, 2, 1, 2);
        q.letter(6, 30, 0);
        Due.tell(q, 3, 1, 9, 9, 9);
        q.take(3);
        q.known(3);
        q.word(7);
        q.word(8);
        q.sign(1);
        q.sign(0);
        Due.feed(q, "trust no; fit 6");
        return q;
    }

    /** Forty letters, the first of 14 lines, five pieces in one group; a full draft, pattern and text. */
    private static Counted full() {
        Counted q = new Counted();
        for (int x = 0; x < 40; x++) {
            q.letter(x % 10, x, x < 6 ? NONE : x - 1);
        }
        for (int line = 0; line < 14; line++) {
            q.line(0, line % 2 * 5);
        }
        for (int x = 1; x <= 5; x++) {
            Due.tell(q, x, 1, 9);
        }
        for (int k = 1; k <= 8; k++) {
            q.word(k);
        }
        for (int k = 1; k <= 4; k++) {
            q.sign(0);
        }
        Due.feed(q, " ".repeat(114) + "keep 8");
        return q;
    }

    private static String stateOf(Counted q) {
        StringBuilder state = new StringBuilder();
        for (int what = 0; what <= 10; what++) {
            state.append(q.count(what)).append(' ');
        }
        rulesOf(q, state);
        int letters = q.count(0);
        for (int x = 0; x < letters; x++) {
            // of many letters only those are asked for everything that have lines: calls are few
            int[] asked = x < 4 ? new int[] {0, 1, 2, 3, 4, 5, 6, 7, 8, 9, 10, 11} : new int[] {2, 3, 5, 6};
            for (int what : asked) {
                state.append(q.about(x, what)).append(' ');
            }
            if (x < 4) {
                linesOf(q, x, state);
            }
        }
        for (int i = 0; i < 4; i++) {
            state.append(q.order(i)).append(' ').append(q.seek(NONE, 0, i - 1)).append(' ');
        }
        whatCanBeSeenOnlyByItsUse(q, state);
        return state.toString();
    }

    private static void rulesOf(Counted q, StringBuilder state) {
        for (int what = 0; what <= 4; what++) {
            state.append(q.rule(what)).append(' ');
        }
        state.append(q.fault()).append('\n');
    }

    private static void linesOf(Counted q, int x, StringBuilder state) {
        int lines = q.about(x, 3);
        for (int line = 0; line < lines; line++) {
            int words = q.told(x, line, 1);
            state.append(q.told(x, line, 0)).append(':');
            for (int k = 0; k < words; k++) {
                state.append(q.told(x, line, 2 + k)).append(' ');
            }
            state.append(q.origin(x, line, 0)).append('\n');
        }
    }

    /** The draft becomes a line, the text becomes rules, letter 3 is turned twice. */
    private static void whatCanBeSeenOnlyByItsUse(Counted q, StringBuilder state) {
        int line = q.line(3, 0);
        for (int what = 0; what <= 9; what++) {
            state.append(q.told(3, line, what)).append(' ');
        }
        state.append(q.take(3)).append(' ').append(q.put(3)).append(' ').append(q.known(NONE)).append(' ');
        state.append(q.count(1)).append(' ').append(q.feed(1, ';')).append(' ').append(q.read()).append(' ');
        rulesOf(q, state);
        state.append(q.letter(0, 0, NONE)).append(' ').append(q.sign(2)).append(' ').append(q.clear());
    }

    private static void refused(String call, int refusal, Supplier<Counted> made, ToIntFunction<Counted> asked) {
        Counted q = made.get();
        due.is(call, asked.applyAsInt(q), refusal);
        due.holds(call + " changes nothing", stateOf(q).equals(stateOf(made.get())));
    }

    private static void unknown(String call, ToIntFunction<Counted> asked) {
        refused(call, Due.UNKNOWN, RefusalsTest::some, asked);
    }

    private static void outside(String call, ToIntFunction<Counted> asked) {
        refused(call, Due.OUTSIDE, RefusalsTest::some, asked);
    }

    private static void not(String call, ToIntFunction<Counted> asked) {
        refused(call, Due.NOT, RefusalsTest::some, asked);
    }

    private static void unknownOnes() {
        for (int x : new int[] {-1, 4}) {
            unknown("line of letter " + x, q -> q.line(x, 0));
            unknown("answer to letter " + x, q -> q.answer(x, 0, 0));
            unknown("take(" + x + ")", q -> q.take(x));
            unknown("put(" + x + ")", q -> q.put(x));
            unknown("about letter " + x, q -> q.about(x, 6));
            unknown("told of letter " + x, q -> q.told(x, 0, 0));
            unknown("told of line " + x, q -> q.told(0, x, 0));
            unknown("differ of letter " + x, q -> q.differ(x, 0, 0, 0));
            unknown("differ with line " + x, q -> q.differ(0, 0, 0, x));
            unknown("fit for letter " + x, q -> q.fit(x, 0));
            unknown("fit of letter " + x, q -> q.fit(0, x));
            unknown("origin of letter " + x, q -> q.origin(x, 0, 0));
            unknown("altered of line " + x, q -> q.altered(0, x));
            unknown("echoes of line " + x, q -> q.echoes(0, x));
            unknown("group of letter " + x, q -> q.group(x));
            unknown("lost(" + x + ")", q -> q.lost(x, 0));
            unknown("lostWord(" + x + ")", q -> q.lostWord(x, 0, 0));
            unknown("span of letter " + x, q -> q.span(x, 0));
            unknown("still(" + x + ")", q -> q.still(x));
        }
        unknown("letter that names itself", q -> q.letter(0, 0, 4));
        unknown("letter that names -2", q -> q.letter(0, 0, -2));
    }

    private static void outsideOnes() {
        for (boolean isBelow : new boolean[] {true, false}) {
            outside("word", q -> q.word(isBelow ? 0 : 64));
            outside("letter by", q -> q.letter(isBelow ? -1 : 10, 0, NONE));
            outside("letter of day", q -> q.letter(0, isBelow ? -2 : 10000, NONE));
            outside("line of depth", q -> q.line(0, isBelow ? -1 : 6));
            outside("answer by", q -> q.answer(0, isBelow ? -1 : 10, 0));
            outside("answer of day", q -> q.answer(0, 0, isBelow ? -2 : 10000));
            outside("known", q -> q.known(isBelow ? -2 : 5));
            outside("about", q -> q.about(0, isBelow ? -1 : 12));
            outside("told", q -> q.told(0, 0, isBelow ? -1 : 10));
            outside("count", q -> q.count(isBelow ? -1 : 11));
            outside("origin", q -> q.origin(0, 0, isBelow ? -1 : 3));
            outside("lost", q -> q.lost(0, isBelow ? -1 : 3));
            outside("span", q -> q.span(0, isBelow ? -1 : 2));
            outside("sign", q -> q.sign(isBelow ? -1 : 64));
            outside("seek by", q -> q.seek(isBelow ? -2 : 10, 0, 0));
            outside("seek where", q -> q.seek(0, isBelow ? -1 : 3, 0));
            outside("feed", q -> q.feed(isBelow ? 0 : 9, -1L));
            outside("rule", q -> q.rule(isBelow ? -1 : 5));
        }
    }

    private static void notNow() {
        not("take what is taken back", q -> q.take(3));
        not("put what is not", q -> q.put(0));
        not("fit of itself", q -> q.fit(0, 0));
        not("fit of one that is not seen", q -> q.fit(0, 3));
        not("fit for one that is not seen", q -> q.fit(3, 0));
        not("origin of one that is not seen", q -> q.origin(3, 0, 0));
        not("altered of one that is not seen", q -> q.altered(3, 0));
        not("span of one that is not seen", q -> q.span(3, 0));
        not("still of one that is not taken back", q -> q.still(0));
        refused("seek without a pattern", Due.NOT, RefusalsTest::withoutPattern, q -> q.seek(NONE, 0, NONE));
    }

    private static Counted withoutPattern() {
        Counted q = some();
        q.clear();
        return q;
    }

    private static void fullOnes() {
        refused("word", Due.FULL, RefusalsTest::full, q -> q.word(9));
        refused("letter", Due.FULL, RefusalsTest::full, q -> q.letter(9, 9, 3));
        refused("line", Due.FULL, RefusalsTest::full, q -> q.line(0, 5));
        refused("answer", Due.FULL, RefusalsTest::full, q -> q.answer(0, 9, 9));
        refused("sign", Due.FULL, RefusalsTest::full, q -> q.sign(9));
        refused("feed", Due.FULL, RefusalsTest::full, q -> q.feed(1, ';'));
        Supplier<Counted> sevenLeft = () -> {
            Counted q = new Counted();
            for (int x = 0; x < 4; x++) {
                q.letter(0, NONE, NONE);
            }
            Due.feed(q, "keep 8" + " ".repeat(107));
            return q;
        };
        refused("feed of eight where seven are left", Due.FULL, sevenLeft, q -> q.feed(8, -1L));
        due.is("feed of seven where seven are left", sevenLeft.get().feed(7, -1L), 120);
    }

    private static void largeOnes() {
        refused("lost", Due.LARGE, RefusalsTest::full, q -> q.lost(0, 2));
        refused("lostWord", Due.LARGE, RefusalsTest::full, q -> q.lostWord(0, 0, 0));
        refused("lostWord of no text", Due.LARGE, RefusalsTest::full, q -> q.lostWord(0, 56, 0));
        due.is("lost of pieces", full().lost(0, 0), 5);
    }

    private static void unknownAheadOfOutside() {
        unknown("letter: names, writer", q -> q.letter(10, 0, 4));
        unknown("letter: names, day", q -> q.letter(0, 10000, 4));
        unknown("line", q -> q.line(4, 6));
        unknown("answer: writer", q -> q.answer(4, -1, 0));
        unknown("answer: day", q -> q.answer(4, 0, -2));
        unknown("about", q -> q.about(4, 12));
        unknown("told: letter", q -> q.told(4, 0, 10));
        unknown("told: line", q -> q.told(0, 2, 10));
        unknown("origin: letter", q -> q.origin(4, 0, 3));
        unknown("origin: line", q -> q.origin(0, 2, 3));
        unknown("lost", q -> q.lost(1, 3));
        unknown("span", q -> q.span(4, 2));
    }

    private static void unknownAheadOfNot() {
        unknown("fit of itself", q -> q.fit(4, 4));
        unknown("fit: x is not seen, no y", q -> q.fit(3, 4));
        unknown("fit: no x, y is not seen", q -> q.fit(4, 3));
        unknown("origin of no line of one that is not seen", q -> q.origin(3, 1, 0));
        unknown("altered of no line of one that is not seen", q -> q.altered(3, 1));
    }

    private static void unknownAheadOfFull() {
        refused("letter", Due.UNKNOWN, RefusalsTest::full, q -> q.letter(0, 0, 40));
        refused("answer", Due.UNKNOWN, RefusalsTest::full, q -> q.answer(40, 0, 0));
        refused("line", Due.UNKNOWN, RefusalsTest::full, q -> q.line(40, 0));
    }

    private static void outsideAheadOfNot() {
        outside("origin of one that is not seen", q -> q.origin(3, 0, 3));
        outside("span of one that is not seen", q -> q.span(3, 2));
        outside("about one that is not seen", q -> q.about(3, 12));
        refused("seek without a pattern: writer", Due.OUTSIDE, RefusalsTest::withoutPattern, q -> q.seek(10, 0, 0));
        refused("seek without a pattern: where", Due.OUTSIDE, RefusalsTest::withoutPattern, q -> q.seek(0, 3, 0));
    }

    private static void outsideAheadOfFull() {
        refused("word", Due.OUTSIDE, RefusalsTest::full, q -> q.word(64));
        refused("letter: writer", Due.OUTSIDE, RefusalsTest::full, q -> q.letter(10, 0, NONE));
        refused("letter: day", Due.OUTSIDE, RefusalsTest::full, q -> q.letter(0, 10000, NONE));
        refused("line", Due.OUTSIDE, RefusalsTest::full, q -> q.line(0, 6));
        refused("answer: writer", Due.OUTSIDE, RefusalsTest::full, q -> q.answer(0, 10, 0));
        refused("answer: day", Due.OUTSIDE, RefusalsTest::full, q -> q.answer(0, 0, 10000));
        refused("sign", Due.OUTSIDE, RefusalsTest::full, q -> q.sign(64));
        refused("feed", Due.OUTSIDE, RefusalsTest::full, q -> q.feed(9, 0));
        refused("feed", Due.OUTSIDE, RefusalsTest::full, q -> q.feed(0, 0));
    }

    private static void outsideAheadOfLarge() {
        refused("lost", Due.OUTSIDE, RefusalsTest::full, q -> q.lost(0, 3));
        refused("lost", Due.OUTSIDE, RefusalsTest::full, q -> q.lost(0, -1));
    }

    private static void manyAtOnce() {
        refused("letter: names, writer, day, full", Due.UNKNOWN, RefusalsTest::full, q -> q.letter(10, 10000, 40));
        refused("answer: letter, writer, day, full", Due.UNKNOWN, RefusalsTest::full, q -> q.answer(40, 10, 10000));
        refused("letter: writer, day, full", Due.OUTSIDE, RefusalsTest::full, q -> q.letter(-1, -2, 39));
        unknown("origin: line, what, not seen", q -> q.origin(3, 9, 9));
    }
}
