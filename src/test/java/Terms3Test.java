/** Terms, part 3: ORIGIN, UNFOUND, ALTERED, PIECES, GROUPS, LOST LETTERS and what is LARGE. */
public final class Terms3Test {
    private static final Due due = new Due("Terms3Test");
    private static final int NONE = Due.NONE;

    public static void main(String[] args) {
        ownLines();
        depthLessOne();
        firstWithTheSameText();
        sameTextAheadOfLike();
        firstThatIsLike();
        throughAllDepths();
        unfoundWithoutParent();
        unfoundWithoutLine();
        originInParentAlone();
        alteredByWhatItIsHeldTo();
        alteredThoughUnfound();
        pieceOfDepthOne();
        pieceHasNothingToHoldTo();
        pieceInOrder();
        groupsByOneText();
        groupsAndSoOn();
        groupsByLeastLetters();
        mostGroups();
        groupOfOnePiece();
        shortestRow();
        rowsOfTwoGroups();
        rowOfLongestPieces();
        firstByTexts();
        oneThatEndsAhead();
        textsAreWhole();
        moreThanFour();
        due.end();
    }

    private static void ownLines() {
        due.sentence("ORIGIN of a LINE of x: of DEPTH 0: itself");
        Counted q = new Counted();
        Due.letterOf(q, 0, 1);
        q.letter(5, NONE, 0);
        Due.tell(q, 1, 0, 9);
        Due.tell(q, 1, 0, 1);
        due.is("its letter, though the parent has the same text", q.origin(1, 1, 0), 1);
        due.is("its line", q.origin(1, 1, 1), 1);
        due.is("its writer", q.origin(1, 1, 2), 5);
        due.is("echoes", q.echoes(0, 0), 1);
    }

    private static void depthLessOne() {
        due.sentence("Quoted: of PARENT's LINES of DEPTH less 1");
        for (int depth = 1; depth <= 5; depth++) {
            Counted q = new Counted();
            q.letter(0, NONE, NONE);
            for (int other = 5; other >= 0; other--) {
                Due.tell(q, 0, other, 1);
            }
            q.letter(0, NONE, 0);
            Due.tell(q, 1, depth, 1);
            Due.tell(q, 1, depth, 2);
            due.is("depth " + depth, q.origin(1, 0, 1), depth == 1 ? 5 : NONE);
            Due.rules(q, "near 1;");
            due.is("depth " + depth + ": like", q.origin(1, 1, 1), depth == 1 ? 5 : NONE);
            due.is("depth " + depth + ": held to another text", q.altered(1, 1), 1);
            due.is("depth " + depth + ": held to the same text", q.altered(1, 0), 0);
        }
    }

    private static void firstWithTheSameText() {
        due.sentence("the first with the same TEXT");
        Counted q = new Counted();
        Due.letterOf(q, 1, 7);
        Due.tell(q, 0, 0, 8);
        for (int line = 2; line < 14; line++) {
            Due.tell(q, 0, 0, 7);
        }
        q.letter(0, NONE, 0);
        Due.tell(q, 1, 1, 7);
        Due.tell(q, 1, 1, 7);
        due.is("the first of twelve", q.origin(1, 0, 1), 2);
        due.is("the same for the second", q.origin(1, 1, 1), 2);
        due.is("echoes of the first", q.echoes(0, 2), 3);
        due.is("echoes of the last", q.echoes(0, 13), 1);
    }

    private static void sameTextAheadOfLike() {
        due.sentence("if there is none, the first one to which it is LIKE");
        Counted q = new Counted();
        Due.letterOf(q, 0, 1, 2, 3);
        q.letter(0, NONE, 0);
        Due.tell(q, 1, 1, 3);
        Due.rules(q, "near 2;");
        due.is("the same text stands last", q.origin(1, 0, 1), 2);
        due.is("it is not altered", q.altered(1, 0), 0);
    }

    private static void firstThatIsLike() {
        due.sentence("the first one to which it is LIKE");
        Counted q = new Counted();
        q.letter(0, NONE, NONE);
        Due.tell(q, 0, 0, 9, 9, 9, 9);
        Due.tell(q, 0, 0, 1, 2, 8, 8);
        Due.tell(q, 0, 0, 1, 2, 3, 8);
        q.letter(0, NONE, 0);
        Due.tell(q, 1, 1, 1, 2, 3, 4);
        due.is("near 0", q.origin(1, 0, 1), NONE);
        Due.rules(q, "near 1;");
        due.is("near 1: the only one", q.origin(1, 0, 1), 2);
        Due.rules(q, "near 2;");
        due.is("near 2: the first, not the nearest", q.origin(1, 0, 1), 1);
    }

    private static void throughAllDepths() {
        due.sentence("that one's ORIGIN");
        Counted q = new Counted();
        q.letter(6, NONE, NONE);
        Due.tell(q, 0, 0, 8);
        Due.tell(q, 0, 0, 9);
        for (int x = 0; x < 5; x++) {
            q.answer(x, x, NONE);
        }
        due.is("the deepest line", q.told(5, 1, 0), 5);
        for (int x = 0; x <= 5; x++) {
            due.is("letter " + x, q.origin(x, 1, 0), 0);
            due.is("line of letter " + x, q.origin(x, 1, 1), 1);
            due.is("writer of letter " + x, q.origin(x, 1, 2), 6);
        }
        due.is("echoes", q.echoes(0, 1), 6);
        due.is("unfound", q.count(5), 0);
        q.take(2);
        due.is("behind the gap", q.origin(5, 1, 0), NONE);
        due.is("ahead of it", q.origin(1, 1, 0), 0);
        due.is("unfound: two lines of three letters", q.count(5), 6);
    }

    private static void unfoundWithoutParent() {
        due.sentence("if there is none (or no PARENT): UNFOUND");
        for (int depth = 1; depth <= 5; depth++) {
            Counted q = new Counted();
            Due.letterOf(q, depth, 1);
            due.is("depth " + depth, q.origin(0, 0, 0), NONE);
            due.is("depth " + depth + ": unfound", q.count(5), 1);
            due.is("depth " + depth + ": altered", q.altered(0, 0), 0);
        }
    }

    private static void unfoundWithoutLine() {
        due.sentence("if there is none (or no PARENT): UNFOUND");
        Counted q = new Counted();
        q.letter(0, NONE, NONE);
        q.letter(0, NONE, 0);
        Due.tell(q, 1, 1, 1);
        due.is("a parent without lines", q.origin(1, 0, 2), NONE);
        Due.tell(q, 0, 0, 2);
        due.is("a parent with another line", q.origin(1, 0, 2), NONE);
        Due.tell(q, 0, 0, 1);
        due.is("a parent with the line", q.origin(1, 0, 2), 0);
    }

    private static void originInParentAlone() {
        due.sentence("of PARENT's LINES");
        Counted q = new Counted();
        Due.letterOf(q, 0, 1);
        q.letter(0, NONE, 0);
        q.letter(0, NONE, 1);
        Due.tell(q, 2, 1, 1);
        due.is("the parent's parent has it, but the parent not", q.origin(2, 0, 0), NONE);
        due.is("it is a piece", q.group(2), 0);
    }

    private static void alteredByWhatItIsHeldTo() {
        due.sentence("ALTERED is a quoted LINE, if what it is held to in PARENT has another TEXT");
        Counted q = new Counted();
        Due.rules(q, "near 1;");
        q.letter(0, NONE, NONE);
        Due.tell(q, 0, 0, 1, 2);
        q.letter(0, NONE, 0);
        Due.tell(q, 1, 1, 1, 3);
        q.letter(0, NONE, 1);
        Due.tell(q, 2, 2, 1, 3);
        Due.tell(q, 2, 2, 1, 2);
        due.is("another text than the parent's", q.altered(1, 0), 1);
        due.is("the parent's text, altered there already", q.altered(2, 0), 0);
        due.is("as it was first written, but not as in the parent", q.altered(2, 1), 1);
        due.is("own", q.altered(0, 0), 0);
        due.is("altered lines", q.count(4), 2);
        due.is("all have one origin", q.echoes(0, 0), 4);
    }

    private static void alteredThoughUnfound() {
        due.sentence("ALTERED is a quoted LINE, if what it is held to in PARENT has another TEXT");
        Counted q = new Counted();
        Due.rules(q, "near 2;");
        Due.letterOf(q, 4, 1);
        q.letter(0, NONE, 0);
        Due.tell(q, 1, 5, 2);
        due.is("held to an unfound line", q.altered(1, 0), 1);
        due.is("its origin", q.origin(1, 0, 0), NONE);
        due.is("unfound both", q.count(5), 2);
    }

    private static void pieceOfDepthOne() {
        due.sentence("PIECE of x: its UNFOUND LINES of DEPTH 1 themselves");
        for (int depth = 0; depth <= 5; depth++) {
            Counted q = new Counted();
            Due.letterOf(q, depth, 1);
            due.is("depth " + depth, q.group(0), depth == 1 ? 0 : NONE);
            due.is("groups of depth " + depth, q.count(6), depth == 1 ? 1 : 0);
        }
    }

    private static void pieceHasNothingToHoldTo() {
        due.sentence("(those that have no LINE in PARENT to hold to)");
        Counted q = new Counted();
        q.letter(0, NONE, NONE);
        Due.tell(q, 0, 0, 1, 2, 3);
        q.letter(0, NONE, 0);
        Due.tell(q, 1, 1, 1, 2, 3);
        Due.tell(q, 1, 1, 1, 2, 4);
        Due.tell(q, 1, 1, 1, 4, 4);
        int[] left = {2, 1, 0};
        for (int near = 0; near <= 2; near++) {
            Due.rules(q, "near " + near + ";");
            due.is("near " + near, q.lost(0, 2), near == 2 ? Due.UNKNOWN : left[near]);
            due.is("groups, near " + near, q.count(6), near == 2 ? 0 : 1);
        }
    }

    private static void pieceInOrder() {
        due.sentence("in order, TEXTS alone");
        Counted q = new Counted();
        Due.letterOf(q, 1, 9);
        Due.tell(q, 0, 0, 5);
        Due.tell(q, 0, 1, 3);
        Due.tell(q, 0, 2, 4);
        Due.tell(q, 0, 1, 9);
        Due.tell(q, 0, 1, 1);
        rowIs("as they stand", q, 9, 3, 9, 1);
    }

    private static void groupsByOneText() {
        due.sentence("GROUPS of LETTERS with PIECES: two that have one TEXT in common are in one");
        Counted q = new Counted();
        Due.letterOf(q, 1, 1, 2, 3);
        Due.letterOf(q, 1, 4, 5, 3);
        Due.letterOf(q, 1, 6, 7, 8);
        Due.tell(q, 2, 2, 3);
        Due.tell(q, 2, 0, 3);
        due.is("the last text of each", q.group(1), 0);
        due.is("a text in common at another depth", q.group(2), 1);
        q.letter(0, NONE, NONE);
        Due.tell(q, 3, 1, 6, 7);
        due.is("a part of a text is not that text", q.group(3), 2);
        Due.tell(q, 3, 1, 8);
        due.is("a text more", q.group(3), 1);
    }

    private static void groupsAndSoOn() {
        due.sentence("are in one, and so on");
        Counted q = new Counted();
        for (int x = 0; x < 39; x++) {
            Due.letterOf(q, 1, x + 1);
        }
        due.is("each alone", q.count(6), 39);
        Due.letterOf(q, 1, 1, 3, 5, 7, 9, 11, 13, 15, 17, 19, 21, 23, 25, 39);
        due.is("joined by the last", q.count(6), 26);
        due.is("its group", q.group(39), 0);
        due.is("the first", q.group(0), 0);
        due.is("the last but one", q.group(38), 0);
        due.is("its pieces", q.lost(0, 0), 15);
        q = new Counted();
        for (int x = 0; x < 40; x++) {
            Due.letterOf(q, 1, 40 - x, 41 - x);
        }
        due.is("a chain of forty", q.count(6), 1);
        due.is("pieces", q.lost(0, 0), 40);
        due.is("the last", q.group(39), 0);
        q.take(20);
        due.is("cut in two", q.count(6), 2);
        due.is("the first part", q.lost(0, 0), 20);
        due.is("the second", q.lost(1, 0), 19);
        due.is("its least", q.lost(1, 1), 21);
    }

    private static void groupsByLeastLetters() {
        due.sentence("numbered by their least LETTERS");
        Counted q = new Counted();
        Due.letterOf(q, 0, 9);
        Due.letterOf(q, 1, 3);
        Due.letterOf(q, 1, 1);
        Due.letterOf(q, 1, 2);
        Due.letterOf(q, 1, 2);
        Due.letterOf(q, 1, 1);
        int[] groups = {NONE, 0, 1, 2, 2, 1};
        for (int x = 0; x < groups.length; x++) {
            due.is("group of " + x, q.group(x), groups[x]);
        }
        int[] least = {1, 2, 3};
        for (int g = 0; g < least.length; g++) {
            due.is("least of " + g, q.lost(g, 1), least[g]);
        }
        Due.tell(q, 5, 1, 3);
        due.is("two become one: the other is numbered anew", q.group(3), 1);
    }

    private static void mostGroups() {
        due.sentence("A LOST LETTER for each GROUP");
        Counted q = new Counted();
        for (int x = 0; x < 40; x++) {
            Due.letterOf(q, 1, x + 1);
        }
        due.is("groups", q.count(6), 40);
        due.is("the last", q.group(39), 39);
        due.is("its word", q.lostWord(39, 0, 0), 40);
        due.is("behind it", q.lost(40, 0), Due.UNKNOWN);
        due.is("none, when none is known", q.known(0) + q.count(6), 0);
        due.is("the first", q.lost(0, 0), Due.UNKNOWN);
    }

    private static void groupOfOnePiece() {
        due.sentence("the shortest row of TEXTS of which each PIECE is what is left when some are struck out");
        Counted q = new Counted();
        Due.letterOf(q, 1, 14, 13, 12, 11, 10, 9, 8, 7, 6, 5, 4, 3, 2, 1);
        rowIs("one piece of fourteen", q, 14, 13, 12, 11, 10, 9, 8, 7, 6, 5, 4, 3, 2, 1);
        q = new Counted();
        Due.letterOf(q, 1, 5);
        rowIs("one piece of one", q, 5);
        q = new Counted();
        Due.letterOf(q, 1, 5, 5, 5);
        rowIs("one text three times", q, 5, 5, 5);
    }

    private static void rowIs(String name, Counted q, int... row) {
        due.is(name + ": texts", q.lost(0, 2), row.length);
        for (int i = 0; i < row.length; i++) {
            due.is(name + ": text " + i, q.lostWord(0, i, 0), row[i]);
        }
        due.is(name + ": behind", q.lostWord(0, row.length, NONE), NONE);
    }

    private static void rowOf(String name, int[][] pieces, int... row) {
        Counted q = new Counted();
        for (int[] piece : pieces) {
            Due.letterOf(q, 1, piece);
        }
        rowIs(name, q, row);
    }

    private static void shortestRow() {
        due.sentence("the shortest row of TEXTS of which each PIECE is what is left when some are struck out");
        rowOf("like pieces", new int[][] {{1, 2}, {1, 2}, {1, 2}, {1, 2}}, 1, 2);
        rowOf("end to end", new int[][] {{1, 2}, {2, 3}, {3, 4}, {4, 5}}, 1, 2, 3, 4, 5);
        rowOf("end to end, backwards", new int[][] {{4, 5}, {3, 4}, {2, 3}, {1, 2}}, 1, 2, 3, 4, 5);
        rowOf("one within", new int[][] {{1, 2, 3, 4}, {2, 4}}, 1, 2, 3, 4);
        rowOf("crosswise", new int[][] {{1, 2}, {2, 1}}, 1, 2, 1);
        rowOf("the least first text would be longer", new int[][] {{2, 1}, {3, 2}, {3, 1}}, 3, 2, 1);
        rowOf("one text more often in one", new int[][] {{1, 1, 1}, {1}, {1, 1}}, 1, 1, 1);
        rowOf("a ring of three", new int[][] {{1, 2}, {2, 3}, {3, 1}}, 1, 2, 3, 1);
    }

    /** Groups of like shape, asked for by turns, as pieces go and come: each row is found for itself. */
    private static void rowsOfTwoGroups() {
        due.sentence("A LOST LETTER for each GROUP");
        Counted q = new Counted();
        Due.letterOf(q, 1, 1, 2);
        Due.letterOf(q, 1, 2, 3);
        Due.letterOf(q, 1, 12, 13);
        Due.letterOf(q, 1, 11, 12);
        Due.letterOf(q, 1, 3, 1);
        int[] second = {11, 12, 13};
        for (int round = 0; round < 3; round++) {
            rowIs("three pieces", q, 1, 2, 3, 1);
            q.take(4);
            rowIs("two pieces", q, 1, 2, 3);
            due.is("the other group", q.lost(1, 2), second.length);
            for (int i = 0; i < second.length; i++) {
                due.is("text " + i + " of the other group", q.lostWord(1, i, 0), second[i]);
            }
            rowIs("two pieces again", q, 1, 2, 3);
            q.take(0);
            rowIs("one piece", q, 2, 3);
            q.put(0);
            q.put(4);
        }
    }

    private static void rowOfLongestPieces() {
        due.sentence("the shortest row of TEXTS of which each PIECE is what is left when some are struck out");
        int[][] pieces = new int[4][14];
        int[] row = new int[53];
        for (int x = 0; x < 4; x++) {
            for (int line = 0; line < 13; line++) {
                pieces[x][1 + line] = 1 + 13 * x + line;
                row[1 + 13 * x + line] = 1 + 13 * x + line;
            }
            pieces[x][0] = 63;
        }
        row[0] = 63;
        rowOf("four of fourteen with the first in common", pieces, row);
    }

    private static void firstByTexts() {
        due.sentence("of several the first by TEXTS (held against one another WORD by WORD, the lesser ahead");
        rowOf("two ways", new int[][] {{2, 1}, {1, 2}}, 1, 2, 1);
        rowOf("others between", new int[][] {{9, 5}, {9, 4}, {9, 3}}, 9, 3, 4, 5);
        rowOf("others ahead", new int[][] {{5, 9}, {4, 9}, {3, 9}, {63, 9}}, 3, 4, 5, 63, 9);
        rowOf("the greatest word", new int[][] {{63, 1}, {62, 1}}, 62, 63, 1);
        Counted q = new Counted();
        int[][][] pieces = {{{5}, {2, 9, 9}}, {{5}, {2, 10}}, {{5}, {3}}};
        for (int[][] piece : pieces) {
            int x = q.letter(0, NONE, NONE);
            for (int[] text : piece) {
                Due.tell(q, x, 1, text);
            }
        }
        due.is("word by word, not by length: text 1", q.lostWord(0, 1, NONE), 3);
        due.is("text 2", q.lostWord(0, 2, NONE), 2);
        due.is("text 3", q.lostWord(0, 3, 0), 3);
    }

    private static void oneThatEndsAhead() {
        due.sentence("the lesser ahead, one that ends ahead)");
        Counted q = new Counted();
        int[][] texts = {{1, 1, 1, 1, 1, 1, 1, 1}, {1, 1, 1, 1, 1, 1, 1}, {1}, {}};
        for (int[] text : texts) {
            int x = Due.letterOf(q, 1, 50);
            Due.tell(q, x, 1, text);
        }
        int[] words = {1, 0, 1, 7, 8};
        due.is("texts", q.lost(0, 2), words.length);
        for (int i = 0; i < words.length; i++) {
            due.is("words of text " + i, q.lostWord(0, i, NONE), words[i]);
        }
        due.is("the empty one has no word", q.lostWord(0, 1, 0), NONE);
        due.is("the last word of the last", q.lostWord(0, 4, 7), 1);
    }

    private static void textsAreWhole() {
        due.sentence("two that have one TEXT in common are in one");
        Counted q = new Counted();
        Due.letterOf(q, 1);
        q.line(0, 1);
        Due.letterOf(q, 1);
        q.line(1, 1);
        Due.letterOf(q, 1, 1);
        due.is("an empty text in common", q.group(1), 0);
        due.is("no text in common", q.group(2), 1);
        due.is("row of one empty text", q.lost(0, 2), 1);
        due.is("it has no words", q.lostWord(0, 0, NONE), 0);
    }

    private static void moreThanFour() {
        due.sentence("LARGE: more than four PIECES in a GROUP");
        Counted q = new Counted();
        for (int x = 0; x < 4; x++) {
            Due.letterOf(q, 1, 9, x + 1);
        }
        rowIs("four", q, 9, 1, 2, 3, 4);
        Due.letterOf(q, 1, 9);
        due.is("five: texts", q.lost(0, 2), Due.LARGE);
        due.is("five: a word", q.lostWord(0, 0, 0), Due.LARGE);
        due.is("five: how many words", q.lostWord(0, 0, NONE), Due.LARGE);
        due.is("five: pieces", q.lost(0, 0), 5);
        due.is("five: its least", q.lost(0, 1), 0);
        due.is("five: the group of the last", q.group(4), 0);
        Due.letterOf(q, 1, 30);
        due.is("another group is not large", q.lost(1, 2), 1);
        q.known(4);
        rowIs("four known", q, 9, 1, 2, 3, 4);
        q.known(NONE);
        q.take(2);
        rowIs("one taken back", q, 9, 1, 2, 4);
    }
}
