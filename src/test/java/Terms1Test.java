import java.util.Arrays;

/** Terms, the words ahead of part 1, and part 1: how many letters, lines and words, who is seen, texts, LIKE. */
public final class Terms1Test {
    private static final Due due = new Due("Terms1Test");
    private static final int NONE = Due.NONE;

    public static void main(String[] args) {
        lastPromisedCall();
        constants();
        numbersFromZero();
        sets();
        fortyLetters();
        fortiethLetterIsAnAnswer();
        writers();
        days();
        named();
        fourteenLines();
        fullLettersSideBySide();
        depths();
        wordsOfTexts();
        takenBack();
        asKnown();
        asKnownAmongTaken();
        ofSeenOnesAlone();
        differing();
        likeByDepth();
        likeByNear();
        likeOfEmptyTexts();
        likeIsOfAnotherLetter();
        due.end();
    }

    private static void lastPromisedCall() {
        due.sentence("An object is used for at most 512 calls after it has been made");
        Counted q = new Counted();
        Due.letterOf(q, 0, 1);
        Due.letterOf(q, 1, 1);
        while (q.calls() < Counted.MOST_CALLS - 2) {
            q.take(0);
            q.put(0);
        }
        due.is("call 511", q.about(1, 6), 0);
        due.is("call 512", q.count(0), 2);
        due.is("calls", q.calls(), 512);
    }

    private static void constants() {
        due.sentence("NONE = -1, UNKNOWN = -1001, OUTSIDE = -1002, NOT = -1003, FULL = -1004, LARGE = -1005");
        due.is("NONE", QuotedLetters.NONE, -1);
        due.is("UNKNOWN", QuotedLetters.UNKNOWN, -1001);
        due.is("OUTSIDE", QuotedLetters.OUTSIDE, -1002);
        due.is("NOT", QuotedLetters.NOT, -1003);
        due.is("FULL", QuotedLetters.FULL, -1004);
        due.is("LARGE", QuotedLetters.LARGE, -1005);
    }

    private static void numbersFromZero() {
        due.sentence("What has a number has it from 0 on, as it comes");
        Counted q = new Counted();
        due.is("first letter", q.letter(0, NONE, NONE), 0);
        due.is("an answer is numbered with the letters", q.answer(0, 0, NONE), 1);
        due.is("a letter behind it", q.letter(0, NONE, NONE), 2);
        due.is("first line", q.line(2, 0), 0);
        due.is("a line of another depth", q.line(2, 1), 1);
        due.is("first line of another letter", q.line(0, 3), 0);
        due.is("first group", q.group(2), 0);
        due.is("first in order", q.order(0), 0);
        q.take(2);
        due.is("taken back, its number is not free", q.letter(0, NONE, NONE), 3);
    }

    private static void sets() {
        due.sentence("A SET is a whole number, bit k for k");
        Counted q = new Counted();
        Due.letterOf(q, 0, 1, 2, 3, 4, 5, 6, 7, 8, 9, 10, 11, 12, 13, 14);
        Due.letterOf(q, 1, 1, 3, 14);
        q.take(0);
        due.is("lines 0, 2 and 13", q.still(0), 1 + 4 + 8192);
        due.is("the empty one", takenWithoutLines(), 0);
    }

    private static int takenWithoutLines() {
        Counted q = new Counted();
        q.letter(0, NONE, NONE);
        q.take(0);
        return q.still(0);
    }

    private static void fortyLetters() {
        due.sentence("LETTERS (40 at most)");
        Counted q = new Counted();
        for (int x = 0; x < 40; x++) {
            due.is("letter " + x, q.letter(0, NONE, NONE), x);
        }
        due.is("a letter more", q.letter(0, NONE, NONE), Due.FULL);
        due.is("an answer more", q.answer(39, 0, NONE), Due.FULL);
        due.is("letters", q.count(0), 40);
        due.is("the last is seen", q.about(39, 5), 1);
        due.is("the last has lines", Due.tell(q, 39, 0, 5), 0);
        due.is("the last is sought", q.sign(5) + q.seek(NONE, 0, 0), 1 + 14 * 39);
        for (int line = 1; line < 14; line++) {
            q.line(39, 1);
        }
        due.is("its lines are full", q.line(39, 1), Due.FULL);
        due.is("the places of all", q.seek(NONE, 0, NONE), 1);
        due.is("the unfound lines of all", q.count(5), 13);
        due.is("the group of the last", q.group(39), 0);
        due.is("its row", q.lost(0, 2), 13);
        due.is("the last is taken back", q.take(39), 1);
        due.is("what is taken back makes no room", q.letter(0, NONE, NONE), Due.FULL);
        q.known(0);
        due.is("what is not known makes no room", q.letter(0, NONE, NONE), Due.FULL);
    }

    private static void fortiethLetterIsAnAnswer() {
        due.sentence("LETTERS (40 at most)");
        Counted q = new Counted();
        for (int x = 0; x < 39; x++) {
            q.letter(0, NONE, NONE);
        }
        due.is("the last is an answer", q.answer(0, 0, NONE), 39);
        due.is("an answer more", q.answer(0, 0, NONE), Due.FULL);
        due.is("a letter more", q.letter(0, NONE, NONE), Due.FULL);
        due.is("its parent", q.about(39, 6), 0);
    }

    private static void writers() {
        due.sentence("by a WRITER (0 to 9)");
        Counted q = new Counted();
        for (int writer : new int[] {Due.MIN, -2, -1, 10, 11, Due.MAX}) {
            due.is("letter by " + writer, q.letter(writer, 0, NONE), Due.OUTSIDE);
        }
        for (int writer = 0; writer <= 9; writer++) {
            due.is("letter by " + writer, q.letter(writer, 0, NONE), writer);
            due.is("its writer", q.about(writer, 0), writer);
        }
        for (int writer : new int[] {Due.MIN, -2, -1, 10, 11, Due.MAX}) {
            due.is("answer by " + writer, q.answer(0, writer, 0), Due.OUTSIDE);
        }
        due.is("answer by 0", q.answer(0, 0, 0), 10);
        due.is("answer by 9", q.answer(0, 9, 0), 11);
        due.is("its writer", q.about(11, 0), 9);
    }

    private static void days() {
        due.sentence("of a DAY (0 .. 9999; NONE: it is not told)");
        Counted q = new Counted();
        q.letter(0, 0, NONE);
        for (int day : new int[] {Due.MIN, -2, 10000, Due.MAX}) {
            due.is("letter of day " + day, q.letter(0, day, NONE), Due.OUTSIDE);
            due.is("answer of day " + day, q.answer(0, 0, day), Due.OUTSIDE);
        }
        for (int day : new int[] {-1, 0, 1, 9998, 9999}) {
            due.is("letter of day " + day, q.about(q.letter(0, day, NONE), 1), day);
            due.is("answer of day " + day, q.about(q.answer(0, 0, day), 1), day);
        }
    }

    private static void named() {
        due.sentence("may NAME a LETTER that was told ahead of it (NONE)");
        Counted q = new Counted();
        due.is("the first cannot name itself", q.letter(0, 0, 0), Due.UNKNOWN);
        due.is("the first names none", q.letter(0, 0, NONE), 0);
        due.is("the second names the first", q.letter(0, 0, 0), 1);
        for (int names : new int[] {Due.MIN, -2, 2, 3, 32, 64, Due.MAX}) {
            due.is("the third names " + names, q.letter(0, 0, names), Due.UNKNOWN);
        }
        due.is("the third names the second", q.letter(0, 0, 1), 2);
        due.is("what it names", q.about(2, 2), 1);
        q.take(1);
        q.known(0);
        due.is("one that is taken back was told", q.letter(0, 0, 1), 3);
        due.is("one that is not known was told", q.letter(0, 0, 0), 4);
        due.is("what it names", q.about(4, 2), 0);
    }

    private static void fourteenLines() {
        due.sentence("and have up to 14 LINES");
        Counted q = new Counted();
        q.letter(0, NONE, NONE);
        due.is("none", q.about(0, 3), 0);
        due.is("none to tell of", q.told(0, 0, 0), Due.UNKNOWN);
        for (int line = 0; line < 14; line++) {
            due.is("line " + line, q.line(0, 0), line);
        }
        due.is("a line more", q.line(0, 0), Due.FULL);
        due.is("lines", q.about(0, 3), 14);
        due.is("the last", q.told(0, 13, 0), 0);
        due.is("behind the last", q.told(0, 14, 0), Due.UNKNOWN);
        due.is("an answer has as many", q.about(q.answer(0, 0, NONE), 3), 14);
        due.is("a line more of the answer", q.line(1, 0), Due.FULL);
        q.letter(0, NONE, NONE);
        due.is("the next letter's first line", q.line(2, 0), 0);
    }

    /** What is asked of a full letter must not reach into the lines of the next one. */
    private static void fullLettersSideBySide() {
        due.sentence("and have up to 14 LINES");
        Counted q = new Counted();
        Due.letterOf(q, 0, 21, 22, 23, 24, 25, 26, 27, 28, 29, 30, 31, 32, 33);
        Due.tell(q, 0, 1, 34);
        Due.letterOf(q, 1, 1);
        Due.letterOf(q, 0, 41, 42, 43, 44, 45, 46, 47, 48, 49, 50, 51, 52, 53, 54);
        Due.letterOf(q, 1, 1);
        Due.letterOf(q, 2, 1);
        int[] groups = {0, 1, NONE, 1, NONE};
        for (int x = 0; x < groups.length; x++) {
            due.is("group of " + x, q.group(x), groups[x]);
        }
        due.is("row of the first", q.lost(0, 2), 1);
        due.is("row of the second", q.lost(1, 2), 1);
        due.is("fit of a letter ahead of the line that it would need", q.fit(4, 2), 0);
        due.is("unfound", q.count(5), 4);
        q.sign(1);
        due.is("places", q.seek(NONE, 0, NONE), 3);
        due.is("the first of them", q.seek(NONE, 0, 0), 14);
        due.is("the second", q.seek(NONE, 0, 1), 42);
        due.is("the next letter's line", q.told(0, 14, 0), Due.UNKNOWN);
        due.is("quoted ones", q.about(0, 4), 1);
    }

    private static void depths() {
        due.sentence("A LINE has a DEPTH (0: its own; 1 .. 5: quoted, so often)");
        for (int depth = 0; depth <= 5; depth++) {
            Counted q = new Counted();
            q.letter(0, NONE, NONE);
            due.is("line of depth " + depth, q.line(0, depth), 0);
            due.is("its depth", q.told(0, 0, 0), depth);
            due.is("depth " + depth + ": quoted ones", q.about(0, 4), depth == 0 ? 0 : 1);
        }
        Counted q = new Counted();
        q.letter(0, NONE, NONE);
        for (int depth : new int[] {Due.MIN, -1, 6, 8, 16, Due.MAX}) {
            due.is("line of depth " + depth, q.line(0, depth), Due.OUTSIDE);
        }
        due.is("lines", q.about(0, 3), 0);
    }

    private static void wordsOfTexts() {
        due.sentence("a TEXT: up to 8 WORDS (1 .. 63)");
        Counted q = new Counted();
        q.letter(0, NONE, NONE);
        for (int w : new int[] {Due.MIN, Due.MIN + 1, -63, -1, 0, 64, 65, 127, 257, Due.MAX}) {
            due.is("word(" + w + ")", q.word(w), Due.OUTSIDE);
        }
        due.is("a text of none", q.line(0, 0), 0);
        int[] eight = {63, 1, 62, 2, 32, 31, 1, 63};
        for (int k = 0; k < 8; k++) {
            due.is("word " + k, q.word(eight[k]), k + 1);
        }
        due.is("word 8", q.word(1), Due.FULL);
        due.is("a text of eight", q.line(0, 0), 1);
        due.is("words of none", q.told(0, 0, 1), 0);
        due.is("words of eight", q.told(0, 1, 1), 8);
        for (int k = 0; k < 8; k++) {
            due.is("no word " + k, q.told(0, 0, 2 + k), NONE);
            due.is("word " + k, q.told(0, 1, 2 + k), eight[k]);
        }
    }

    private static void takenBack() {
        due.sentence("A LETTER may be TAKEN BACK: it stays told, but is SEEN no more (till it is put back)");
        Counted q = new Counted();
        q.letter(7, 77, NONE);
        q.letter(8, 88, 0);
        Due.tell(q, 1, 1, 5, 6);
        q.take(1);
        due.is("letters", q.count(0), 2);
        int[] told = {8, 88, 0, 1, 1, 0};
        for (int what = 0; what < told.length; what++) {
            due.is("about(1, " + what + ")", q.about(1, what), told[what]);
        }
        due.is("its word", q.told(1, 0, 3), 6);
        due.is("its text", q.differ(1, 0, 1, 0), 0);
        due.is("it may have lines more", Due.tell(q, 1, 0, 9), 1);
        due.is("it may be named", q.letter(0, NONE, 1), 2);
        due.is("it may be answered", q.about(q.answer(1, 0, NONE), 3), 2);
        due.is("seen", q.count(1), 3);
        q.put(1);
        due.is("seen again", q.about(1, 5), 1);
        due.is("seen", q.count(1), 4);
        due.is("with the line told meanwhile", q.origin(1, 1, 0), 1);
    }

    private static void asKnown() {
        due.sentence("AS KNOWN by k: only the first k LETTERS are SEEN");
        Counted q = new Counted();
        for (int x = 0; x < 40; x++) {
            q.letter(0, NONE, NONE);
        }
        for (int k : new int[] {0, 1, 2, 31, 32, 33, 39, 40}) {
            due.is("known(" + k + ")", q.known(k), k);
            due.is("known by " + k + ": seen", q.count(1), k);
            due.is("known by " + k + ": the first behind", q.about(k, 5), k == 40 ? Due.UNKNOWN : 0);
            due.is("known by " + k + ": the last", q.about(k - 1, 5), k == 0 ? Due.UNKNOWN : 1);
        }
        due.is("known(NONE)", q.known(NONE), NONE);
        due.is("all are seen", q.count(1), 40);
        due.is("letters", q.count(0), 40);
    }

    private static void asKnownAmongTaken() {
        due.sentence("only the first k LETTERS are SEEN (of those that are not TAKEN BACK)");
        Counted q = new Counted();
        for (int x = 0; x < 4; x++) {
            q.letter(0, NONE, NONE);
        }
        q.take(1);
        q.take(3);
        int[] seen = {0, 1, 1, 2, 2};
        for (int k = 0; k <= 4; k++) {
            q.known(k);
            due.is("known by " + k, q.count(1), seen[k]);
        }
        due.is("above those that there are", q.known(5), Due.OUTSIDE);
        q.known(2);
        due.is("put back what is not known", q.put(3), 1);
        due.is("it is not seen", q.about(3, 5), 0);
        due.is("take what is not known", q.take(2), 1);
        q.known(NONE);
        due.is("seen", q.about(0, 5) + 2 * q.about(1, 5) + 4 * q.about(2, 5) + 8 * q.about(3, 5), 1 + 8);
    }

    /** 0 quotes 3, 3 is answered by 1 and 2: without 3 each stands alone. */
    private static Counted aroundLetterThree() {
        Counted q = new Counted();
        Due.letterOf(q, 1, 9);
        Due.letterOf(q, 1, 9, 8);
        Due.letterOf(q, 1, 9);
        Due.letterOf(q, 0, 9);
        Due.tell(q, 3, 1, 7);
        Due.tell(q, 3, 1, 6);
        return q;
    }

    private static void ofSeenOnesAlone() {
        due.sentence("all below is of SEEN ones alone");
        int[] withIt = {4, 4, 0, 1, 0, 3, 2, 0};
        int[] without = {4, 3, 0, 3, 0, 4, 1, 0};
        Counted q = aroundLetterThree();
        seenAlone("all", q, withIt, 3);
        due.is("all: of a thread", q.about(3, 10), 4);
        q.take(3);
        seenAlone("taken", q, without, NONE);
        q.put(3);
        seenAlone("put back", q, withIt, 3);
        q.known(3);
        seenAlone("not known", q, without, NONE);
        q.known(4);
        seenAlone("known", q, withIt, 3);
    }

    private static void seenAlone(String how, Counted q, int[] counts, int parent) {
        for (int what = 0; what < counts.length; what++) {
            due.is(how + ": count(" + what + ")", q.count(what), counts[what]);
        }
        boolean isSeen = parent == 3;
        due.is(how + ": parent", q.about(0, 6), parent);
        due.is(how + ": root", q.about(0, 7), isSeen ? 3 : 0);
        due.is(how + ": origin", q.origin(1, 0, 0), parent);
        due.is(how + ": echoes", q.echoes(3, 0), isSeen ? 4 : 0);
        due.is(how + ": group of 3", q.group(3), isSeen ? 1 : NONE);
        due.is(how + ": pieces of the first group", q.lost(0, 0), isSeen ? 1 : 3);
        due.is(how + ": last in order", q.order(3), isSeen ? 2 : NONE);
        due.is(how + ": fit", q.fit(0, 3), isSeen ? 1 : Due.NOT);
        q.sign(9);
        due.is(how + ": places", q.seek(NONE, 0, NONE), isSeen ? 4 : 3);
        q.clear();
    }

    private static void differing() {
        due.sentence("TEXTS differ by the fewest WORDS put in, struck out or changed");
        int[][] texts = {{}, {1}, {63}, {1, 2}, {2, 1}, {1, 2, 3}, {2, 3}, {1, 3}, {1, 1, 1, 1, 1, 1, 1, 1},
            {1, 2, 3, 4, 5, 6, 7, 8}, {2, 3, 4, 5, 6, 7, 8, 1}, {9, 10, 11, 12, 13, 14, 15, 16}, {8, 7, 6, 5, 4, 3, 2, 1}};
        int[][] differences = {
            {0, 1, 1, 2, 2, 3, 2, 2, 8, 8, 8, 8, 8},
            {1, 0, 1, 1, 1, 2, 2, 1, 7, 7, 7, 8, 7},
            {1, 1, 0, 2, 2, 3, 2, 2, 8, 8, 8, 8, 8},
            {2, 1, 2, 0, 2, 1, 2, 1, 7, 6, 8, 8, 7},
            {2, 1, 2, 2, 0, 2, 1, 2, 7, 7, 6, 8, 6},
            {3, 2, 3, 1, 2, 0, 1, 1, 7, 5, 7, 8, 7},
            {2, 2, 2, 2, 1, 1, 0, 1, 8, 6, 6, 8, 7},
            {2, 1, 2, 1, 2, 1, 1, 0, 7, 6, 7, 8, 7},
            {8, 7, 8, 7, 7, 7, 8, 7, 0, 7, 7, 8, 7},
            {8, 7, 8, 6, 7, 5, 6, 6, 7, 0, 2, 8, 8},
            {8, 7, 8, 8, 6, 7, 6, 7, 7, 2, 0, 8, 6},
            {8, 8, 8, 8, 8, 8, 8, 8, 8, 8, 8, 0, 8},
            {8, 7, 8, 7, 6, 7, 7, 7, 7, 8, 6, 8, 0}};
        Counted q = new Counted();
        q.letter(0, NONE, NONE);
        for (int[] text : texts) {
            Due.tell(q, 0, 0, text);
        }
        for (int a = 0; a < texts.length; a++) {
            for (int b = 0; b < texts.length; b++) {
                due.is("differ " + a + " " + b, q.differ(0, a, 0, b), differences[a][b]);
            }
        }
    }

    private static void likeByDepth() {
        due.sentence("LIKE is a quoted LINE of DEPTH d to a LINE of another LETTER, if that has DEPTH d - 1");
        for (int depth = 0; depth <= 5; depth++) {
            for (int other = 0; other <= 5; other++) {
                Counted q = new Counted();
                Due.letterOf(q, depth, 1);
                Due.letterOf(q, other, 1);
                due.is("depths " + depth + " and " + other, q.fit(0, 1), other == depth - 1 ? 1 : 0);
            }
        }
    }

    private static void likeByNear() {
        due.sentence("and their TEXTS differ by at most near (RULES)");
        int[][] texts = {{1, 2, 3}, {1, 2, 4}, {2, 3}, {1, 2, 3, 4}, {1, 5, 4}, {3}, {7, 1, 2, 3, 4}, {4, 5, 6}, {},
            {1, 2, 3, 4, 5, 6}};
        int[] differences = {0, 1, 1, 1, 2, 2, 2, 3, 3, 3};
        for (int t = 0; t < texts.length; t++) {
            Counted q = new Counted();
            Due.letterOf(q, 0);
            Due.tell(q, 0, 0, 1, 2, 3);
            q.letter(0, NONE, 0);
            Due.tell(q, 1, 1, texts[t]);
            for (int near : new int[] {0, 1, 2, 1, 0}) {
                Due.rules(q, "near " + near + ";");
                boolean isLike = differences[t] <= near;
                due.is("near " + near + ", text " + t + ": fit", q.fit(1, 0), isLike ? 1 : 0);
                due.is("near " + near + ", text " + t + ": origin", q.origin(1, 0, 0), isLike ? 0 : NONE);
            }
        }
    }

    private static void likeOfEmptyTexts() {
        due.sentence("and their TEXTS differ by at most near (RULES)");
        for (int words = 0; words <= 3; words++) {
            Counted q = new Counted();
            Due.letterOf(q, 0);
            Due.tell(q, 0, 0, Arrays.copyOf(new int[] {1, 2, 3}, words));
            Due.letterOf(q, 1);
            q.line(1, 1);
            for (int near = 0; near <= 2; near++) {
                Due.rules(q, "near " + near + ";");
                due.is("an empty text and " + words + " words, near " + near, q.fit(1, 0), words <= near ? 1 : 0);
            }
        }
    }

    private static void likeIsOfAnotherLetter() {
        due.sentence("LIKE is a quoted LINE of DEPTH d to a LINE of another LETTER");
        Counted q = new Counted();
        Due.letterOf(q, 0, 1);
        Due.tell(q, 0, 1, 1);
        due.is("no parent of itself", q.about(0, 6), NONE);
        due.is("no origin in itself", q.origin(0, 1, 0), NONE);
        due.is("no echo in itself", q.echoes(0, 0), 1);
    }
}
