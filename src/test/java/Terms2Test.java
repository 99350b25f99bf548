import java.util.Arrays;

/** Terms, part 2: FIT, which letter MAY be a PARENT and which one is, ROOT, THREAD, STEPS. */
public final class Terms2Test {
    private static final Due due = new Due("Terms2Test");
    private static final int NONE = Due.NONE;

    public static void main(String[] args) {
        fitOfNone();
        fitOfAll();
        fitWithALineMore();
        mostPairs();
        eachLineInOnePair();
        pairsOfAllDepths();
        mayBeSeen();
        mayNotBeItself();
        mayNotLeadBack();
        mayNotLeadBackFromFar();
        foundSoFar();
        mayByDays();
        trustNamesWhateverTheDays();
        trustWithoutAnyQuote();
        namedThatMayNotBe();
        noTrust();
        greatestFit();
        atLeastOnePair();
        shareOfQuotedLines();
        ownLinesAreNotQuoted();
        leastOfLikeOnes();
        aloneInItsThread();
        longestWayUp();
        widestThread();
        due.end();
    }

    private static void fitOfNone() {
        due.sentence("FIT of a LETTER y for x: the most pairs of quoted LINES of x and LINES of y");
        Counted q = new Counted();
        Due.letterOf(q, 0);
        Due.letterOf(q, 0, 1);
        Due.letterOf(q, 1, 1);
        due.is("lines of y alone, its own", q.fit(0, 1), 0);
        due.is("no lines in y", q.fit(2, 0), 0);
        due.is("no lines in x", q.fit(0, 2), 0);
        due.is("no quoted lines in x", q.fit(1, 2), 0);
        due.is("one pair", q.fit(2, 1), 1);
        Due.letterOf(q, 0);
        due.is("no lines in both", q.fit(0, 3), 0);
    }

    private static void fitOfAll() {
        due.sentence("FIT of a LETTER y for x: the most pairs of quoted LINES of x and LINES of y");
        int[] fourteen = {1, 2, 3, 4, 5, 6, 7, 8, 9, 10, 11, 12, 13, 14};
        Counted q = new Counted();
        Due.letterOf(q, 0, fourteen);
        Due.letterOf(q, 1, fourteen);
        due.is("all lines of both", q.fit(1, 0), 14);
        Due.letterOf(q, 1, 1);
        Due.letterOf(q, 1, 14);
        due.is("the first of y alone", q.fit(2, 0), 1);
        due.is("the last of y alone", q.fit(3, 0), 1);
        Counted p = new Counted();
        for (int x = 0; x < 38; x++) {
            p.letter(0, NONE, NONE);
        }
        Due.letterOf(p, 0, fourteen);
        p.answer(38, 0, NONE);
        due.is("of the last two letters", p.fit(39, 38), 14);
        due.is("the other way round", p.fit(38, 39), 0);
    }

    private static void fitWithALineMore() {
        due.sentence("FIT of a LETTER y for x: the most pairs of quoted LINES of x and LINES of y");
        int[][] letters = {{0, 1}, {1, 0}, {0, 39}, {39, 0}, {38, 39}, {20, 19}};
        Counted q = new Counted();
        for (int x = 0; x < 40; x++) {
            q.letter(0, NONE, NONE);
        }
        for (int k = 0; k < letters.length; k++) {
            int x = letters[k][0];
            int y = letters[k][1];
            int before = q.fit(x, y);
            Due.tell(q, x, 1, 10 + k);
            due.is("a line of " + x + " alone", q.fit(x, y), before);
            Due.tell(q, y, 0, 10 + k);
            due.is("then one of " + y, q.fit(x, y), before + 1);
            Due.tell(q, x, 1, 30 + k);
            due.is("another of " + x, q.fit(x, y), before + 1);
            Due.tell(q, y, 0, 30 + k);
            due.is("then one of " + y, q.fit(x, y), before + 2);
            Due.tell(q, y, 0, 50);
            due.is("a third of " + y + " alone", q.fit(x, y), before + 2);
            Due.tell(q, x, 1, 50);
            due.is("then one of " + x, q.fit(x, y), before + 3);
        }
    }

    private static void fitIs(String name, int[] quoted, int[] own, int want) {
        Counted q = new Counted();
        Due.letterOf(q, 0, own);
        Due.letterOf(q, 1, quoted);
        due.is(name, q.fit(1, 0), want);
    }

    private static void mostPairs() {
        due.sentence("the most pairs .., that stand in one order in both");
        fitIs("all but the first", new int[] {3, 1, 2}, new int[] {1, 2, 3}, 2);
        fitIs("all but the last", new int[] {2, 3, 1}, new int[] {1, 2, 3}, 2);
        fitIs("backwards", new int[] {5, 4, 3, 2, 1}, new int[] {1, 2, 3, 4, 5}, 1);
        fitIs("with others between", new int[] {1, 9, 2, 9, 3}, new int[] {8, 1, 2, 8, 8, 3}, 3);
        fitIs("not the first pair that offers", new int[] {1, 2, 3, 4}, new int[] {4, 1, 2, 3}, 3);
        fitIs("two ways that cross", new int[] {1, 2, 1, 2}, new int[] {2, 2, 1, 1}, 2);
    }

    private static void eachLineInOnePair() {
        due.sentence("(each LINE in one pair at most)");
        fitIs("one line quoted twice", new int[] {1, 1}, new int[] {1}, 1);
        fitIs("two lines quoted once", new int[] {1}, new int[] {1, 1}, 1);
        fitIs("two lines quoted twice", new int[] {1, 1}, new int[] {1, 1}, 2);
        fitIs("three times, and two with one between", new int[] {1, 1, 1}, new int[] {1, 2, 1}, 2);
    }

    private static void pairsOfAllDepths() {
        due.sentence("the former LIKE the latter");
        Counted q = new Counted();
        Due.letterOf(q, 0);
        Due.letterOf(q, 0);
        for (int depth = 0; depth <= 5; depth++) {
            Due.tell(q, 0, depth, 1);
            Due.tell(q, 1, depth, 1);
        }
        due.is("depths 1 to 5 with 0 to 4", q.fit(0, 1), 5);
    }

    private static void mayBeSeen() {
        due.sentence("y MAY be that of x, if y is SEEN");
        Counted q = new Counted();
        Due.letterOf(q, 1, 1);
        Due.letterOf(q, 0, 1);
        Due.letterOf(q, 0, 1);
        due.is("the first that fits", q.about(0, 6), 1);
        q.take(1);
        due.is("it is taken back", q.about(0, 6), 2);
        q.known(2);
        due.is("the other is not known", q.about(0, 6), NONE);
        q.put(1);
        due.is("it is put back", q.about(0, 6), 1);
        q.known(1);
        due.is("neither is known", q.about(0, 6), NONE);
    }

    private static void mayNotBeItself() {
        due.sentence("y MAY be that of x, if y is .. not x");
        Counted q = new Counted();
        Due.letterOf(q, 0, 1, 2);
        Due.tell(q, 0, 1, 1);
        Due.tell(q, 0, 1, 2);
        due.is("it would fit itself", q.about(0, 6), NONE);
        Due.letterOf(q, 0, 1);
        due.is("another fits less", q.about(0, 6), 1);
        due.is("its fit", q.about(0, 11), 1);
    }

    private static void mayNotLeadBack() {
        due.sentence("from y by PARENTS (found so far) one does not come to x");
        Counted q = new Counted();
        Due.letterOf(q, 0, 1);
        Due.tell(q, 0, 1, 2);
        q.letter(0, NONE, 0);
        Due.tell(q, 1, 0, 2);
        Due.tell(q, 1, 1, 1);
        due.is("by fit", q.about(0, 6), 1);
        due.is("neither by name nor by fit", q.about(1, 6), NONE);
        Due.letterOf(q, 0, 1);
        due.is("one that fits as well and does not lead back", q.about(1, 6), 2);
    }

    private static void mayNotLeadBackFromFar() {
        due.sentence("from y by PARENTS (found so far) one does not come to x");
        Counted q = new Counted();
        for (int x = 0; x < 39; x++) {
            Due.letterOf(q, 1, x + 1);
            Due.tell(q, x, 0, x == 0 ? 63 : x);
        }
        Due.letterOf(q, 0, 39);
        Due.tell(q, 39, 1, 63);
        due.is("each has the next as parent", q.about(38, 6), 39);
        due.is("the last may not have the first", q.about(39, 6), NONE);
        due.is("steps", q.about(0, 8), 39);
        q.take(20);
        due.is("the way is cut: it may", q.about(39, 6), 0);
        due.is("steps", q.about(21, 8), 38);
        due.is("root", q.about(21, 7), 19);
    }

    private static void foundSoFar() {
        due.sentence("PARENT of LETTERS, one after the other by numbers");
        Counted q = new Counted();
        Due.letterOf(q, 1, 1);
        Due.tell(q, 0, 0, 3);
        Due.letterOf(q, 1, 2);
        Due.tell(q, 1, 0, 1);
        Due.letterOf(q, 1, 3);
        Due.tell(q, 2, 0, 2);
        due.is("the first finds its own", q.about(0, 6), 1);
        due.is("the second too", q.about(1, 6), 2);
        due.is("the third would close the ring", q.about(2, 6), NONE);
        q.take(0);
        due.is("then the second", q.about(1, 6), 2);
        q.put(0);
        q.take(1);
        due.is("the ring is open", q.about(2, 6), 0);
        due.is("the first has none", q.about(0, 6), NONE);
    }

    private static void mayByDays() {
        due.sentence("not both DAYS are told, with that of y after that of x");
        int[][] days = {{10, 9, 1}, {10, 10, 1}, {10, 11, 0}, {0, 0, 1}, {0, 1, 0}, {9999, 9999, 1}, {9998, 9999, 0},
            {9999, 0, 1}, {0, 9999, 0}, {NONE, 9999, 1}, {NONE, 0, 1}, {0, NONE, 1}, {9999, NONE, 1}, {NONE, NONE, 1}};
        for (int[] day : days) {
            Counted q = new Counted();
            q.letter(0, day[1], NONE);
            Due.tell(q, 0, 0, 1);
            q.letter(0, day[0], NONE);
            Due.tell(q, 1, 1, 1);
            due.is("x of " + day[0] + ", y of " + day[1], q.about(1, 6), day[2] == 1 ? 0 : NONE);
        }
        Counted q = new Counted();
        q.letter(0, 20, NONE);
        Due.tell(q, 0, 0, 1);
        Due.tell(q, 0, 0, 2);
        q.letter(0, 10, NONE);
        Due.tell(q, 1, 0, 1);
        q.letter(0, 10, NONE);
        Due.tell(q, 2, 1, 1);
        Due.tell(q, 2, 1, 2);
        due.is("a later day fits better, but may not", q.about(2, 6), 1);
    }

    private static void trustNamesWhateverTheDays() {
        due.sentence("With trust (RULES): what x NAMES, if it MAY be (whatever the DAYS)");
        Counted q = new Counted();
        q.letter(0, 9999, NONE);
        q.letter(0, 0, 0);
        due.is("9999 days after", q.about(1, 6), 0);
        due.is("its fit", q.about(1, 11), 0);
        Due.rules(q, "trust no;");
        due.is("no trust", q.about(1, 6), NONE);
        due.is("its fit", q.about(1, 11), NONE);
    }

    private static void trustWithoutAnyQuote() {
        due.sentence("With trust (RULES): what x NAMES, if it MAY be");
        Counted q = new Counted();
        Due.letterOf(q, 0, 1, 2);
        Due.letterOf(q, 0, 3);
        q.letter(0, NONE, 1);
        Due.tell(q, 2, 1, 1);
        Due.tell(q, 2, 1, 2);
        Due.rules(q, "fit 100;");
        due.is("named, though another fits", q.about(2, 6), 1);
        q.letter(0, NONE, 0);
        due.is("named by one without lines", q.about(3, 6), 0);
    }

    private static void namedThatMayNotBe() {
        due.sentence("what x NAMES, if it MAY be");
        Counted q = new Counted();
        Due.letterOf(q, 0, 1);
        Due.letterOf(q, 0, 1);
        q.letter(0, NONE, 1);
        Due.tell(q, 2, 1, 1);
        due.is("named", q.about(2, 6), 1);
        q.take(1);
        due.is("the named one is taken back: by fit", q.about(2, 6), 0);
        q.take(0);
        due.is("both are: none", q.about(2, 6), NONE);
        q.put(1);
        due.is("the named one is put back", q.about(2, 6), 1);
    }

    private static void noTrust() {
        due.sentence("With trust (RULES)");
        Counted q = new Counted();
        Due.letterOf(q, 0, 1);
        Due.letterOf(q, 0, 1);
        q.letter(0, NONE, 1);
        due.is("with trust", q.about(2, 6), 1);
        Due.rules(q, "trust no;");
        due.is("named alone", q.about(2, 6), NONE);
        Due.tell(q, 2, 1, 1);
        due.is("by fit, the least: not the named one", q.about(2, 6), 0);
        q.take(0);
        due.is("by fit, the named one", q.about(2, 6), 1);
        Due.rules(q, "trust yes;");
        q.put(0);
        due.is("with trust again", q.about(2, 6), 1);
    }

    private static void greatestFit() {
        due.sentence("Else that y which MAY be with the greatest FIT");
        Counted q = new Counted();
        Due.letterOf(q, 0, 1, 2);
        Due.letterOf(q, 1, 1, 2, 3);
        Due.letterOf(q, 0, 1, 2, 3);
        Due.letterOf(q, 0, 2, 3);
        due.is("behind lesser ones", q.about(1, 6), 2);
        due.is("its fit", q.about(1, 11), 3);
        q.take(2);
        due.is("the greatest of the rest, the least", q.about(1, 6), 0);
    }

    private static void atLeastOnePair() {
        due.sentence("with the greatest FIT, if that is 1 or more");
        Counted q = new Counted();
        Due.rules(q, "fit 0;");
        Due.letterOf(q, 0, 1);
        Due.letterOf(q, 0);
        Due.letterOf(q, 1, 2);
        due.is("without lines", q.about(1, 6), NONE);
        due.is("without a pair", q.about(2, 6), NONE);
        Due.tell(q, 2, 1, 1);
        due.is("one pair", q.about(2, 6), 0);
    }

    private static void shareOfQuotedLines() {
        due.sentence("FIT times 100 is at least fit (RULES) times quoted LINES of x");
        int[][] cases = {{2, 1, 50, 51}, {3, 1, 33, 34}, {3, 2, 66, 67}, {14, 1, 7, 8}, {14, 13, 92, 93}, {13, 1, 7, 8},
            {7, 2, 28, 29}, {4, 3, 75, 76}, {5, 1, 20, 21}, {10, 1, 10, 11}};
        for (int[] c : cases) {
            Counted q = new Counted();
            int[] words = {1, 2, 3, 4, 5, 6, 7, 8, 9, 10, 11, 12, 13, 14};
            Due.letterOf(q, 0, Arrays.copyOf(words, c[1]));
            Due.letterOf(q, 1, Arrays.copyOf(words, c[0]));
            Due.rules(q, "fit " + c[2] + ";");
            due.is(c[1] + " of " + c[0] + ", fit " + c[2], q.about(1, 6), 0);
            Due.rules(q, "fit " + c[3] + ";");
            due.is(c[1] + " of " + c[0] + ", fit " + c[3], q.about(1, 6), NONE);
            Due.rules(q, "fit 0;");
            due.is(c[1] + " of " + c[0] + ", fit 0", q.about(1, 6), 0);
            Due.rules(q, "fit 100;");
            due.is(c[1] + " of " + c[0] + ", fit 100", q.about(1, 6), NONE);
            due.is("the fit itself", q.fit(1, 0), c[1]);
        }
        Counted q = new Counted();
        Due.letterOf(q, 0, 1, 2, 3);
        Due.letterOf(q, 1, 1, 2, 3);
        Due.rules(q, "fit 100;");
        due.is("3 of 3, fit 100", q.about(1, 6), 0);
        Due.rules(q, "");
        Due.tell(q, 1, 1, 4);
        Due.tell(q, 1, 1, 5);
        Due.tell(q, 1, 1, 6);
        due.is("3 of 6, fit 50 as at first", q.about(1, 6), 0);
        Due.tell(q, 1, 5, 7);
        due.is("3 of 7, one of these of depth 5", q.about(1, 6), NONE);
    }

    private static void ownLinesAreNotQuoted() {
        due.sentence("times quoted LINES of x");
        Counted q = new Counted();
        Due.letterOf(q, 0, 1);
        Due.letterOf(q, 1, 1);
        Due.rules(q, "fit 100;");
        for (int line = 1; line < 14; line++) {
            Due.tell(q, 1, 0, 40);
        }
        due.is("one quoted line among fourteen", q.about(1, 6), 0);
    }

    private static void leastOfLikeOnes() {
        due.sentence("of like ones the least");
        Counted q = new Counted();
        for (int x = 0; x < 39; x++) {
            Due.letterOf(q, 0, 1);
        }
        Due.letterOf(q, 1, 1);
        for (int x = 0; x < 39; x++) {
            due.is("the least is " + x, q.about(39, 6), x);
            q.take(x);
        }
        due.sentence("Else NONE");
        due.is("none is left", q.about(39, 6), NONE);
    }

    private static void aloneInItsThread() {
        due.sentence("ROOT of x: where one comes by PARENTS; a THREAD: all with one ROOT. STEPS: how many PARENTS up");
        Counted q = new Counted();
        Due.letterOf(q, 0, 1);
        Due.letterOf(q, 0, 1);
        int[] alone = {NONE, 1, 0, 0, 1, NONE};
        for (int what = 6; what <= 11; what++) {
            due.is("about(1, " + what + ")", q.about(1, what), alone[what - 6]);
        }
        due.is("roots", q.count(3), 2);
    }

    private static void longestWayUp() {
        due.sentence("STEPS: how many PARENTS up");
        Counted q = new Counted();
        q.letter(0, NONE, NONE);
        for (int x = 1; x < 40; x++) {
            q.letter(0, NONE, x - 1);
        }
        for (int x : new int[] {0, 1, 38, 39}) {
            due.is("steps of " + x, q.about(x, 8), x);
            due.is("root of " + x, q.about(x, 7), 0);
            due.is("thread of " + x, q.about(x, 10), 40);
            due.is("how many " + x + " is parent of", q.about(x, 9), x == 39 ? 0 : 1);
        }
        due.is("roots", q.count(3), 1);
    }

    private static void widestThread() {
        due.sentence("a THREAD: all with one ROOT");
        Counted q = new Counted();
        q.letter(0, NONE, NONE);
        for (int x = 1; x < 40; x++) {
            q.letter(0, NONE, 0);
        }
        due.is("parent of all others", q.about(0, 9), 39);
        due.is("letters", q.about(20, 10), 40);
        q.take(0);
        due.is("each its own root", q.count(3), 39);
        due.is("letters", q.about(20, 10), 1);
        due.is("not seen", q.about(0, 10), NONE);
    }
}
