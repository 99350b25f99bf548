/** Promises 14 to 19: who said a line first, lines altered, lost letters. */
public final class QuotesTest {
    private static final Due due = new Due("QuotesTest");

    public static void main(String[] args) {
        origins();
        sameTextAheadOfLike();
        alteredOnes();
        echoesOfLines();
        groupsOfPieces();
        piecesThemselves();
        rows();
        rowOfFourLongPieces();
        rowsOneAfterTheOther();
        firstByTexts();
        emptyTexts();
        largeGroups();
        refusals();
        due.end();
    }

    private static Counted chain() {
        Counted q = new Counted();
        q.letter(7, 1, Due.NONE);
        Due.tell(q, 0, 0, 1, 2, 3);
        Due.tell(q, 0, 0, 4, 5, 6);
        q.letter(8, 2, 0);
        Due.tell(q, 1, 1, 4, 5, 6);
        Due.tell(q, 1, 0, 7);
        Due.tell(q, 1, 1, 20, 21, 22);
        q.letter(9, 3, 1);
        Due.tell(q, 2, 2, 4, 5, 6);
        Due.tell(q, 2, 1, 7);
        Due.tell(q, 2, 2, 20, 21, 22);
        Due.tell(q, 2, 1, 4, 5, 6);
        return q;
    }

    private static void origins() {
        Counted q = chain();
        due.is("own", q.origin(0, 1, 0), 0);
        due.is("own line", q.origin(0, 1, 1), 1);
        due.is("own writer", q.origin(0, 1, 2), 7);
        due.is("through two", q.origin(2, 0, 0), 0);
        due.is("its line", q.origin(2, 0, 1), 1);
        due.is("its writer", q.origin(2, 0, 2), 7);
        due.is("of the parent", q.origin(2, 1, 2), 8);
        due.is("unfound itself", q.origin(1, 2, 0), Due.NONE);
        due.is("unfound by what it is held to", q.origin(2, 2, 1), Due.NONE);
        due.is("of another depth", q.origin(2, 3, 2), Due.NONE);
        q.take(1);
        due.is("the way is cut", q.origin(2, 0, 0), Due.NONE);
        due.is("not seen", q.origin(1, 0, 0), Due.NOT);
        due.is("outside ahead of not", q.origin(1, 0, 3), Due.OUTSIDE);
        due.is("unknown ahead of outside", q.origin(1, 3, 3), Due.UNKNOWN);
    }

    private static void sameTextAheadOfLike() {
        Counted q = new Counted();
        Due.rules(q, "near 2;");
        q.letter(0, 1, Due.NONE);
        Due.tell(q, 0, 0, 1, 2);
        Due.tell(q, 0, 0, 1, 3);
        Due.tell(q, 0, 0, 1, 3);
        q.letter(1, 2, 0);
        Due.tell(q, 1, 1, 1, 3);
        Due.tell(q, 1, 1, 1, 4);
        Due.tell(q, 1, 1, 1, 5, 6, 7);
        due.is("the first with the same text", q.origin(1, 0, 1), 1);
        due.is("the first that it is like", q.origin(1, 1, 1), 0);
        due.is("like none", q.origin(1, 2, 1), Due.NONE);
    }

    private static void alteredOnes() {
        Counted q = chain();
        Due.tell(q, 2, 2, 20, 21, 23);
        Due.tell(q, 2, 1, 7, 7);
        Due.tell(q, 2, 1, 8, 8);
        due.is("near 0", q.altered(2, 5), 0);
        Due.rules(q, "near 1;");
        due.is("held to an unfound line of another text", q.altered(2, 4), 1);
        due.is("held to a line of another text", q.altered(2, 5), 1);
        due.is("held to none", q.altered(2, 6), 0);
        due.is("held to the same text", q.altered(2, 0), 0);
        due.is("own", q.altered(0, 0), 0);
        due.is("count(4)", q.count(4), 2);
        due.is("unknown letter", q.altered(3, 0), Due.UNKNOWN);
        due.is("unknown line", q.altered(2, 7), Due.UNKNOWN);
        q.take(2);
        due.is("not seen", q.altered(2, 0), Due.NOT);
        due.is("unknown ahead of not", q.altered(2, -1), Due.UNKNOWN);
        due.is("count(4)", q.count(4), 0);
        q = new Counted();
        Due.rules(q, "near 2;");
        q.letter(0, Due.NONE, Due.NONE);
        Due.tell(q, 0, 1, 1, 2, 3);
        q.letter(0, Due.NONE, Due.NONE);
        Due.tell(q, 1, 0, 1, 3, 4);
        due.is("the first letter's line, held to a later one's", q.altered(0, 0), 1);
        due.is("count(4)", q.count(4), 1);
    }

    private static void echoesOfLines() {
        Counted q = chain();
        due.is("itself and two", q.echoes(0, 1), 3);
        due.is("itself alone", q.echoes(0, 0), 1);
        due.is("a quoted line is no origin", q.echoes(1, 0), 0);
        due.is("unknown", q.echoes(0, 2), Due.UNKNOWN);
        due.is("unknown", q.echoes(3, 0), Due.UNKNOWN);
        q.take(1);
        due.is("the way is cut", q.echoes(0, 1), 1);
        q.take(0);
        due.is("not seen", q.echoes(0, 1), 0);
    }

    private static void groupsOfPieces() {
        Counted q = new Counted();
        for (int x = 0; x < 6; x++) {
            q.letter(0, Due.NONE, Due.NONE);
        }
        Due.tell(q, 1, 1, 1);
        Due.tell(q, 2, 1, 2);
        Due.tell(q, 3, 1, 3);
        Due.tell(q, 4, 2, 3);
        Due.tell(q, 5, 1, 3);
        Due.tell(q, 5, 1, 1);
        int[] groups = {-1, 0, 1, 0, -1, 0};
        for (int x = 0; x < 6; x++) {
            due.is("group(" + x + ")", q.group(x), groups[x]);
        }
        due.is("pieces", q.lost(0, 0), 3);
        due.is("least", q.lost(1, 1), 2);
        due.is("groups", q.count(6), 2);
        q.take(5);
        int[] then = {-1, 0, 1, 2, -1, -1};
        for (int x = 0; x < 6; x++) {
            due.is("5 taken: group(" + x + ")", q.group(x), then[x]);
        }
        due.is("unknown", q.group(6), Due.UNKNOWN);
        due.is("unknown", q.group(-1), Due.UNKNOWN);
    }

    private static void piecesThemselves() {
        Counted q = new Counted();
        q.letter(0, Due.NONE, Due.NONE);
        Due.tell(q, 0, 0, 1);
        q.letter(1, Due.NONE, 0);
        Due.tell(q, 1, 1, 5);
        Due.tell(q, 1, 1, 1);
        Due.tell(q, 1, 2, 6);
        Due.tell(q, 1, 1, 4, 4);
        due.is("found and deeper ones are left out", q.lost(0, 2), 2);
        due.is("first", q.lostWord(0, 0, 0), 5);
        due.is("second", q.lostWord(0, 1, 1), 4);
        due.is("words of it", q.lostWord(0, 1, Due.NONE), 2);
        q.letter(2, Due.NONE, 1);
        Due.tell(q, 2, 2, 5);
        due.is("held to an unfound one: no piece", q.group(2), Due.NONE);
        Due.tell(q, 1, 1, 5);
        due.is("one text twice in a piece", q.lost(0, 2), 3);
    }

    private static void pieces(Counted q, int[]... pieces) {
        for (int[] piece : pieces) {
            int x = q.letter(0, Due.NONE, Due.NONE);
            for (int w : piece) {
                Due.tell(q, x, 1, w);
            }
        }
    }

    private static void rowIs(String name, Counted q, int... row) {
        due.is(name + ": length", q.lost(0, 2), row.length);
        for (int i = 0; i < row.length; i++) {
            due.is(name + ": text " + i, q.lostWord(0, i, 0), row[i]);
            due.is(name + ": words of text " + i, q.lostWord(0, i, Due.NONE), 1);
        }
        due.is(name + ": behind it", q.lostWord(0, row.length, 0), Due.NONE);
        due.is(name + ": behind it", q.lostWord(0, row.length, Due.NONE), Due.NONE);
        due.is(name + ": ahead of it", q.lostWord(0, -1, 0), Due.NONE);
    }

    private static void rows() {
        Counted q = new Counted();
        pieces(q, new int[] {2, 1, 3}, new int[] {1, 2, 3});
        rowIs("two", q, 1, 2, 1, 3);
        q = new Counted();
        pieces(q, new int[] {5, 1}, new int[] {1, 5});
        rowIs("either way", q, 1, 5, 1);
        q = new Counted();
        pieces(q, new int[] {1, 2, 3}, new int[] {2, 3}, new int[] {1, 2, 3}, new int[] {1, 3});
        rowIs("one within another", q, 1, 2, 3);
        q = new Counted();
        pieces(q, new int[] {9, 1}, new int[] {9, 2}, new int[] {9, 3}, new int[] {9, 4});
        rowIs("four", q, 9, 1, 2, 3, 4);
        q = new Counted();
        pieces(q, new int[] {1, 9}, new int[] {2, 9}, new int[] {3, 9, 3});
        rowIs("three", q, 1, 2, 3, 9, 3);
        due.is("a shortest row is not the least from its first text on", shorterThanGreedy(), 5);
    }

    private static int shorterThanGreedy() {
        Counted q = new Counted();
        pieces(q, new int[] {2, 3, 4, 5}, new int[] {1, 2, 3, 4}, new int[] {2, 5});
        return q.lost(0, 2);
    }

    private static void rowOfFourLongPieces() {
        Counted q = new Counted();
        for (int x = 0; x < 4; x++) {
            q.letter(x, Due.NONE, Due.NONE);
            for (int l = 0; l < 13; l++) {
                Due.tell(q, x, 1, 1 + 4 * l + x);
            }
            Due.tell(q, x, 1, 63);
        }
        due.is("length", q.lost(0, 2), 53);
        int[] places = {0, 1, 4, 12, 13, 14, 51, 52};
        int[] texts = {1, 2, 5, 13, 14, 15, 52, 63};
        for (int k = 0; k < places.length; k++) {
            due.is("text " + places[k], q.lostWord(0, places[k], 0), texts[k]);
        }
        q.take(3);
        due.is("length of three", q.lost(0, 2), 40);
        q.put(3);
        due.is("length of four again", q.lost(0, 2), 53);
        due.is("its first text", q.lostWord(0, 0, 0), 1);
    }

    private static void rowsOneAfterTheOther() {
        Counted q = new Counted();
        pieces(q, new int[] {1, 2, 3}, new int[] {2, 3, 4}, new int[] {8, 7, 6}, new int[] {7, 6, 5});
        rowIs("first group", q, 1, 2, 3, 4);
        due.is("second group", q.lost(1, 2), 4);
        int[] row = {8, 7, 6, 5};
        for (int i = 0; i < row.length; i++) {
            due.is("second group: text " + i, q.lostWord(1, i, 0), row[i]);
        }
        rowIs("first group again", q, 1, 2, 3, 4);
        Due.tell(q, 1, 1, 1);
        rowIs("first group, a line more", q, 1, 2, 3, 4, 1);
        pieces(q, new int[] {4, 1, 1});
        rowIs("first group, a piece more", q, 1, 2, 3, 4, 1, 1);
    }

    private static void firstByTexts() {
        Counted q = new Counted();
        int[][][] pieces = {{{9}, {5, 6}}, {{9}, {5}}, {{9}, {5, 5, 9}}, {{9}, {}}};
        for (int[][] piece : pieces) {
            int x = q.letter(0, Due.NONE, Due.NONE);
            for (int[] text : piece) {
                Due.tell(q, x, 1, text);
            }
        }
        int[] words = {1, 0, 1, 3, 2};
        due.is("length", q.lost(0, 2), 5);
        for (int i = 0; i < words.length; i++) {
            due.is("words of text " + i, q.lostWord(0, i, Due.NONE), words[i]);
        }
        due.is("an empty text has no word", q.lostWord(0, 1, 0), Due.NONE);
        due.is("text 3", q.lostWord(0, 3, 2), 9);
        due.is("text 4", q.lostWord(0, 4, 1), 6);
        due.is("word 8", q.lostWord(0, 4, 8), Due.NONE);
        due.is("word -2", q.lostWord(0, 4, -2), Due.NONE);
        due.is("word MAX", q.lostWord(0, 4, Due.MAX), Due.NONE);
    }

    private static void emptyTexts() {
        Counted q = new Counted();
        q.letter(0, Due.NONE, Due.NONE);
        Due.tell(q, 0, 1);
        q.letter(0, Due.NONE, Due.NONE);
        Due.tell(q, 1, 1);
        Due.tell(q, 1, 1);
        due.is("an empty text is one in common", q.group(1), 0);
        due.is("row of empty texts", q.lost(0, 2), 2);
        due.is("its words", q.lostWord(0, 1, Due.NONE), 0);
    }

    private static void largeGroups() {
        Counted q = new Counted();
        for (int x = 0; x < 5; x++) {
            pieces(q, new int[] {1, 2 + x});
        }
        pieces(q, new int[] {30});
        due.is("pieces", q.lost(0, 0), 5);
        due.is("least", q.lost(0, 1), 0);
        due.is("row", q.lost(0, 2), Due.LARGE);
        due.is("outside ahead of large", q.lost(0, 3), Due.OUTSIDE);
        due.is("word", q.lostWord(0, 0, 0), Due.LARGE);
        due.is("word, none such", q.lostWord(0, 99, 99), Due.LARGE);
        due.is("the other group", q.lostWord(1, 0, 0), 30);
        q.take(0);
        rowIs("four are not too many", q, 1, 3, 4, 5, 6);
        due.is("least", q.lost(0, 1), 1);
    }

    private static void refusals() {
        Counted q = new Counted();
        due.is("no group", q.lost(0, 0), Due.UNKNOWN);
        due.is("no group", q.lost(0, 9), Due.UNKNOWN);
        due.is("no group", q.lostWord(0, 0, 0), Due.UNKNOWN);
        pieces(q, new int[] {1});
        due.is("outside", q.lost(0, 3), Due.OUTSIDE);
        due.is("outside", q.lost(0, -1), Due.OUTSIDE);
        due.is("unknown", q.lost(1, 3), Due.UNKNOWN);
        due.is("unknown", q.lost(-1, 0), Due.UNKNOWN);
        due.is("unknown", q.lost(Due.MAX, 0), Due.UNKNOWN);
        due.is("unknown", q.lostWord(1, 0, 0), Due.UNKNOWN);
        due.is("unknown", q.lostWord(-1, 0, 0), Due.UNKNOWN);
    }
}
