/** Promises 1 to 13: letters, lines, answers, what is seen, parents and fits. */
public final class LettersTest {
    private static final Due due = new Due("LettersTest");

    public static void main(String[] args) {
        newObject();
        words();
        lettersTold();
        linesTold();
        answers();
        takenAndPut();
        knownOnes();
        plainAbout();
        parentsByName();
        parentsByFit();
        parentsWithoutLoops();
        parentsOfLaterNumber();
        threads();
        toldWords();
        differing();
        fits();
        fitsWithNear();
        counts();
        due.end();
    }

    private static void newObject() {
        Counted q = new Counted();
        int[] counts = {0, 0, 0, 0, 0, 0, 0, 0, 0, 0, Due.NONE};
        for (int what = 0; what < counts.length; what++) {
            due.is("new: count(" + what + ")", q.count(what), counts[what]);
        }
        int[] rules = {0, 50, 1, 14, 5};
        for (int what = 0; what < rules.length; what++) {
            due.is("new: rule(" + what + ")", q.rule(what), rules[what]);
        }
        due.is("new: fault()", q.fault(), Due.NONE);
        due.is("new: order(0)", q.order(0), Due.NONE);
        due.is("new: about(0, 0)", q.about(0, 0), Due.UNKNOWN);
        due.is("new: about(-1, 99)", q.about(-1, 99), Due.UNKNOWN);
        Counted other = new Counted();
        other.letter(0, 0, Due.NONE);
        due.is("new: objects share nothing", q.count(0), 0);
    }

    private static void words() {
        Counted q = new Counted();
        for (int w : new int[] {0, -1, 64, Due.MIN, Due.MAX}) {
            due.is("word(" + w + ")", q.word(w), Due.OUTSIDE);
        }
        for (int k = 1; k <= 8; k++) {
            due.is("word " + k, q.word(k % 2 == 0 ? 63 : 1), k);
        }
        due.is("word of a full draft", q.word(5), Due.FULL);
        due.is("word outside, draft full", q.word(64), Due.OUTSIDE);
        due.is("count(2)", q.count(2), 8);
    }

    private static void lettersTold() {
        Counted q = new Counted();
        due.is("letter naming itself", q.letter(0, 0, 0), Due.UNKNOWN);
        due.is("letter naming -2", q.letter(0, 0, -2), Due.UNKNOWN);
        due.is("letter unknown ahead of outside", q.letter(10, 10000, 0), Due.UNKNOWN);
        for (int writer : new int[] {-1, 10, Due.MIN, Due.MAX}) {
            due.is("letter by " + writer, q.letter(writer, 0, Due.NONE), Due.OUTSIDE);
        }
        for (int day : new int[] {-2, 10000, Due.MIN, Due.MAX}) {
            due.is("letter of day " + day, q.letter(0, day, Due.NONE), Due.OUTSIDE);
        }
        due.is("first letter", q.letter(9, 9999, Due.NONE), 0);
        due.is("second letter", q.letter(0, Due.NONE, 0), 1);
        for (int x = 2; x < 40; x++) {
            due.is("letter " + x, q.letter(x % 10, x, x - 1), x);
        }
        due.is("letter 40", q.letter(0, 0, Due.NONE), Due.FULL);
        due.is("letter 40, outside", q.letter(10, 0, Due.NONE), Due.OUTSIDE);
        due.is("letter 40, unknown", q.letter(10, 0, 40), Due.UNKNOWN);
        due.is("answer 40", q.answer(0, 0, 0), Due.FULL);
        due.is("count(0)", q.count(0), 40);
        due.is("about(39, 8)", q.about(39, 8), 39);
    }

    private static void linesTold() {
        Counted q = new Counted();
        q.word(7);
        due.is("line of no letter", q.line(0, 0), Due.UNKNOWN);
        due.is("line unknown ahead of outside", q.line(-1, 6), Due.UNKNOWN);
        q.letter(0, 0, Due.NONE);
        due.is("line of depth 6", q.line(0, 6), Due.OUTSIDE);
        due.is("line of depth -1", q.line(0, -1), Due.OUTSIDE);
        due.is("draft stays", q.count(2), 1);
        due.is("line of depth 5", q.line(0, 5), 0);
        due.is("draft is empty then", q.count(2), 0);
        for (int l = 1; l < 14; l++) {
            due.is("line " + l, q.line(0, l % 6), l);
        }
        q.word(9);
        due.is("line 14", q.line(0, 0), Due.FULL);
        due.is("line 14, outside", q.line(0, 6), Due.OUTSIDE);
        due.is("draft stays when full", q.count(2), 1);
        due.is("told(0, 0, 2)", q.told(0, 0, 2), 7);
        due.is("empty text", q.told(0, 1, 1), 0);
        due.is("about(0, 3)", q.about(0, 3), 14);
        due.is("about(0, 4)", q.about(0, 4), 12);
    }

    private static void answers() {
        Counted q = new Counted();
        due.is("answer to none", q.answer(0, 10, 0), Due.UNKNOWN);
        q.letter(0, 5, Due.NONE);
        for (int depth = 0; depth <= 5; depth++) {
            Due.tell(q, 0, depth, depth + 1);
        }
        due.is("parent of none", q.about(0, 9), 0);
        due.is("answer by 10", q.answer(0, 10, 0), Due.OUTSIDE);
        due.is("answer by -1", q.answer(0, -1, 0), Due.OUTSIDE);
        due.is("answer of day 10000", q.answer(0, 0, 10000), Due.OUTSIDE);
        q.word(50);
        due.is("answer", q.answer(0, 3, Due.NONE), 1);
        due.is("answer leaves the draft", q.count(2), 1);
        due.is("parent of the answer", q.about(0, 9), 1);
        due.is("answer's writer", q.about(1, 0), 3);
        due.is("answer's day", q.about(1, 1), Due.NONE);
        due.is("answer names", q.about(1, 2), 0);
        due.is("answer leaves out what is too deep", q.about(1, 3), 5);
        for (int l = 0; l < 5; l++) {
            due.is("answer's depth " + l, q.told(1, l, 0), l + 1);
            due.is("answer's word " + l, q.told(1, l, 2), l + 1);
        }
        due.is("rules", Due.rules(q, "deep 3; keep 2;"), 2);
        due.is("answer, deep and keep", q.answer(0, 0, 0), 2);
        due.is("last two of three", q.about(2, 3), 2);
        due.is("the first of them", q.told(2, 0, 0), 2);
        due.is("the second of them", q.told(2, 1, 0), 3);
        due.is("rules", Due.rules(q, "keep 0;"), 1);
        due.is("answer, keep none", q.answer(0, 0, 0), 3);
        due.is("no lines", q.about(3, 3), 0);
        due.is("rules", Due.rules(q, "deep 0;"), 1);
        due.is("answer, deep none", q.answer(0, 0, 0), 4);
        due.is("no lines", q.about(4, 3), 0);
        Due.rules(q, "");
        q.take(0);
        due.is("answer to one that is not seen", q.answer(0, 0, 0), 5);
        due.is("it quotes all the same", q.about(5, 3), 5);
        due.is("it has no parent", q.about(5, 6), Due.NONE);
    }

    private static void takenAndPut() {
        Counted q = new Counted();
        due.is("take none", q.take(0), Due.UNKNOWN);
        due.is("put none", q.put(0), Due.UNKNOWN);
        q.letter(0, 0, Due.NONE);
        due.is("put what is not taken", q.put(0), Due.NOT);
        due.is("take", q.take(0), 1);
        due.is("take again", q.take(0), Due.NOT);
        due.is("not seen", q.about(0, 5), 0);
        due.is("it stays told", q.about(0, 0), 0);
        due.is("count(0)", q.count(0), 1);
        due.is("count(1)", q.count(1), 0);
        due.is("put", q.put(0), 1);
        due.is("put again", q.put(0), Due.NOT);
        due.is("seen", q.about(0, 5), 1);
        due.is("take(-1)", q.take(-1), Due.UNKNOWN);
        due.is("put(1)", q.put(1), Due.UNKNOWN);
    }

    private static void knownOnes() {
        Counted q = new Counted();
        due.is("known(1) of none", q.known(1), Due.OUTSIDE);
        due.is("known(0) of none", q.known(0), 0);
        due.is("letter", q.letter(0, 0, Due.NONE), 0);
        due.is("not known", q.about(0, 5), 0);
        due.is("count(10)", q.count(10), 0);
        due.is("known(-2)", q.known(-2), Due.OUTSIDE);
        due.is("known(2)", q.known(2), Due.OUTSIDE);
        due.is("known(MIN)", q.known(Due.MIN), Due.OUTSIDE);
        due.is("count(10) stays", q.count(10), 0);
        due.is("known(1)", q.known(1), 1);
        q.letter(0, 0, 0);
        q.letter(0, 0, 1);
        due.is("those to come are not known", q.count(1), 1);
        due.is("take one that is not known", q.take(2), 1);
        due.is("known(2)", q.known(2), 2);
        q.take(0);
        due.is("the first two, of those not taken", q.count(1), 1);
        due.is("a later one does not step in", q.about(2, 5), 0);
        due.is("known(-1)", q.known(-1), -1);
        due.is("all but the taken", q.count(1), 1);
        q.letter(0, 0, Due.NONE);
        due.is("also those to come", q.about(3, 5), 1);
    }

    private static void plainAbout() {
        Counted q = new Counted();
        q.letter(4, 77, Due.NONE);
        q.letter(5, Due.NONE, 0);
        Due.tell(q, 1, 0, 1);
        Due.tell(q, 1, 3, 2);
        Due.tell(q, 1, 1, 3);
        int[] first = {4, 77, -1, 0, 0, 1, -1, 0, 0, 1, 2, -1};
        int[] second = {5, -1, 0, 3, 2, 1, 0, 0, 1, 0, 2, 0};
        int[] taken = {5, -1, 0, 3, 2, 0, -1, -1, -1, -1, -1, -1};
        for (int what = 0; what <= 11; what++) {
            due.is("about(0, " + what + ")", q.about(0, what), first[what]);
            due.is("about(1, " + what + ")", q.about(1, what), second[what]);
        }
        q.take(1);
        for (int what = 0; what <= 11; what++) {
            due.is("taken: about(1, " + what + ")", q.about(1, what), taken[what]);
        }
        due.is("about(0, 9) of none seen", q.about(0, 9), 0);
        due.is("about(0, 12)", q.about(0, 12), Due.OUTSIDE);
        due.is("about(0, -1)", q.about(0, -1), Due.OUTSIDE);
        due.is("about(2, 12)", q.about(2, 12), Due.UNKNOWN);
    }

    private static void parentsByName() {
        Counted q = new Counted();
        q.letter(0, 100, Due.NONE);
        Due.tell(q, 0, 0, 1);
        q.letter(1, 90, Due.NONE);
        Due.tell(q, 1, 0, 2);
        q.letter(2, 50, 0);
        Due.tell(q, 2, 1, 2);
        due.is("named, whatever the days", q.about(2, 6), 0);
        due.is("fit of the named", q.about(2, 11), 0);
        Due.rules(q, "trust no;");
        due.is("no trust: the fitting one is later by days", q.about(2, 6), Due.NONE);
        q.letter(3, 90, 0);
        Due.tell(q, 3, 1, 2);
        due.is("no trust: the fitting one", q.about(3, 6), 1);
        Due.rules(q, "");
        due.is("trust again", q.about(3, 6), 0);
        q.take(0);
        due.is("the named one is not seen: what fits", q.about(3, 6), 1);
        due.is("the named one is not seen: nothing fits", q.about(2, 6), Due.NONE);
    }

    private static void parentsByFit() {
        Counted q = new Counted();
        q.letter(0, 10, Due.NONE);
        Due.tell(q, 0, 0, 1);
        q.letter(1, 10, Due.NONE);
        Due.tell(q, 1, 0, 1);
        Due.tell(q, 1, 0, 2);
        q.letter(2, 10, Due.NONE);
        Due.tell(q, 2, 0, 1);
        Due.tell(q, 2, 0, 2);
        q.letter(3, 10, Due.NONE);
        Due.tell(q, 3, 1, 1);
        Due.tell(q, 3, 1, 2);
        due.is("greatest fit, the least of like ones; like days may be", q.about(3, 6), 1);
        q.take(1);
        due.is("the next", q.about(3, 6), 2);
        q.take(2);
        due.is("half of the quoted lines is enough", q.about(3, 6), 0);
        Due.tell(q, 3, 1, 3);
        due.is("a third is not", q.about(3, 6), Due.NONE);
        Due.rules(q, "fit 33;");
        due.is("33 of 100", q.about(3, 6), 0);
        Due.rules(q, "fit 34;");
        due.is("34 of 100", q.about(3, 6), Due.NONE);
        Due.rules(q, "fit 0;");
        due.is("fit 0", q.about(3, 6), 0);
        q.letter(4, 10, Due.NONE);
        due.is("fit 0, but no pair", q.about(4, 6), Due.NONE);
        q.letter(5, 10, Due.NONE);
        Due.tell(q, 5, 1, 60);
        due.is("fit 0, a quoted line, but no pair", q.about(5, 6), Due.NONE);
        Due.rules(q, "fit 100;");
        q.put(2);
        due.is("fit 100, two of three", q.about(3, 6), Due.NONE);
        Due.tell(q, 2, 0, 3);
        due.is("fit 100, all", q.about(3, 6), 2);
        due.is("its fit", q.about(3, 11), 3);
        Due.tell(q, 3, 0, 9);
        due.is("own lines do not count", q.about(3, 6), 2);
    }

    private static void parentsWithoutLoops() {
        Counted q = new Counted();
        q.letter(0, Due.NONE, Due.NONE);
        q.letter(1, Due.NONE, 0);
        Due.tell(q, 0, 1, 1);
        Due.tell(q, 0, 0, 2);
        Due.tell(q, 1, 0, 1);
        Due.tell(q, 1, 1, 2);
        due.is("0 is found first", q.about(0, 6), 1);
        due.is("1 may not, though it names it and it fits", q.about(1, 6), Due.NONE);
        due.is("root", q.about(0, 7), 1);
        q.letter(2, Due.NONE, 0);
        Due.tell(q, 2, 0, 2);
        due.is("1 takes one whose parent is not found so far", q.about(1, 6), 2);
        due.is("so 2 may not, though it names 0", q.about(2, 6), Due.NONE);
        due.is("root", q.about(0, 7), 2);
        due.is("steps", q.about(0, 8), 2);
        due.is("thread", q.about(1, 10), 3);
        q.take(2);
        due.is("2 is taken", q.about(1, 6), Due.NONE);
        q.letter(3, Due.NONE, Due.NONE);
        Due.tell(q, 3, 0, 2);
        due.is("the next that may be", q.about(1, 6), 3);
    }

    private static void parentsOfLaterNumber() {
        Counted q = new Counted();
        q.letter(0, 9, Due.NONE);
        Due.tell(q, 0, 1, 5, 5);
        q.letter(1, 8, Due.NONE);
        Due.tell(q, 1, 0, 5, 5);
        due.is("a parent may have a greater number", q.about(0, 6), 1);
        due.is("order(0)", q.order(0), 1);
        due.is("order(1)", q.order(1), 0);
        due.is("1 is parent of 0", q.about(1, 9), 1);
        q.known(1);
        due.is("as known by 1", q.about(0, 6), Due.NONE);
    }

    private static void threads() {
        Counted q = new Counted();
        q.letter(0, Due.NONE, Due.NONE);
        q.letter(0, Due.NONE, 0);
        q.letter(0, Due.NONE, 1);
        q.letter(0, Due.NONE, 0);
        q.letter(0, Due.NONE, Due.NONE);
        due.is("root", q.about(2, 7), 0);
        due.is("steps", q.about(2, 8), 2);
        due.is("children", q.about(0, 9), 2);
        due.is("thread", q.about(3, 10), 4);
        due.is("another thread", q.about(4, 10), 1);
        due.is("roots", q.count(3), 2);
        q.take(1);
        due.is("2 is its own root", q.about(2, 7), 2);
        due.is("thread", q.about(0, 10), 2);
        due.is("roots", q.count(3), 3);
    }

    private static void toldWords() {
        Counted q = new Counted();
        q.letter(0, 0, Due.NONE);
        Due.tell(q, 0, 2, 63, 1, 62);
        int[] answers = {2, 3, 63, 1, 62, -1, -1, -1, -1, -1};
        for (int what = 0; what <= 9; what++) {
            due.is("told(0, 0, " + what + ")", q.told(0, 0, what), answers[what]);
        }
        due.is("told outside", q.told(0, 0, 10), Due.OUTSIDE);
        due.is("told outside", q.told(0, 0, -1), Due.OUTSIDE);
        due.is("told of no line", q.told(0, 1, 10), Due.UNKNOWN);
        due.is("told of line -1", q.told(0, -1, 0), Due.UNKNOWN);
        due.is("told of no letter", q.told(1, 0, 0), Due.UNKNOWN);
        q.take(0);
        due.is("told of a taken one", q.told(0, 0, 2), 63);
        Due.tell(q, 0, 0, 1, 2, 3, 4, 5, 6, 7, 63);
        due.is("told(0, 1, 9)", q.told(0, 1, 9), 63);
    }

    private static void differing() {
        Counted q = new Counted();
        q.letter(0, 0, Due.NONE);
        q.letter(0, 0, Due.NONE);
        Due.tell(q, 0, 0, 1, 2, 3, 4, 5, 6, 7, 8);
        Due.tell(q, 0, 0, 2, 3, 4, 5, 6, 7, 8, 9);
        Due.tell(q, 1, 4);
        Due.tell(q, 1, 0, 8, 7, 6, 5, 4, 3, 2, 1);
        Due.tell(q, 1, 0, 1, 2, 9, 4, 5, 6, 7);
        due.is("one struck out, one put in", q.differ(0, 0, 0, 1), 2);
        due.is("against the empty one", q.differ(0, 0, 1, 0), 8);
        due.is("backwards", q.differ(0, 0, 1, 1), 8);
        due.is("one changed, one struck out", q.differ(0, 0, 1, 2), 2);
        due.is("the other way round", q.differ(1, 2, 0, 0), 2);
        due.is("itself", q.differ(1, 0, 1, 0), 0);
        due.is("no letter", q.differ(2, 0, 0, 0), Due.UNKNOWN);
        due.is("no line", q.differ(0, 2, 0, 0), Due.UNKNOWN);
        due.is("no other letter", q.differ(0, 0, -1, 0), Due.UNKNOWN);
        due.is("no other line", q.differ(0, 0, 1, 3), Due.UNKNOWN);
        q.take(0);
        due.is("of a taken one too", q.differ(0, 0, 0, 1), 2);
    }

    private static void fits() {
        Counted q = new Counted();
        q.letter(0, 0, Due.NONE);
        q.letter(0, 0, Due.NONE);
        for (int w : new int[] {1, 2, 3, 1}) {
            Due.tell(q, 0, 0, w);
        }
        for (int w : new int[] {2, 1, 3, 3}) {
            Due.tell(q, 1, 1, w);
        }
        due.is("in one order, each line once", q.fit(1, 0), 2);
        due.is("own lines quote nothing", q.fit(0, 1), 0);
        Due.tell(q, 0, 0, 3);
        due.is("a line more", q.fit(1, 0), 3);
        Due.tell(q, 1, 2, 3);
        due.is("of another depth", q.fit(1, 0), 3);
        Due.tell(q, 0, 1, 3);
        due.is("depth 2 and 1", q.fit(1, 0), 4);
        Due.tell(q, 0, 1, 4);
        Due.tell(q, 1, 2, 4);
        due.is("a line more of x", q.fit(1, 0), 5);
        due.is("itself", q.fit(0, 0), Due.NOT);
        due.is("unknown", q.fit(0, 2), Due.UNKNOWN);
        due.is("unknown", q.fit(-1, -1), Due.UNKNOWN);
        q.take(1);
        due.is("x not seen", q.fit(1, 0), Due.NOT);
        due.is("y not seen", q.fit(0, 1), Due.NOT);
        due.is("unknown ahead of not", q.fit(1, 2), Due.UNKNOWN);
        q.put(1);
        q.known(1);
        due.is("not known", q.fit(0, 1), Due.NOT);
        q.known(2);
        due.is("seen again", q.fit(1, 0), 5);
    }

    private static void fitsWithNear() {
        Counted q = new Counted();
        q.letter(0, 0, Due.NONE);
        Due.tell(q, 0, 0, 1, 2, 3, 4);
        Due.tell(q, 0, 0, 5, 6);
        q.letter(1, 0, Due.NONE);
        Due.tell(q, 1, 1, 1, 3, 4);
        Due.tell(q, 1, 1);
        due.is("near 0", q.fit(1, 0), 0);
        Due.rules(q, "near 1;");
        due.is("near 1", q.fit(1, 0), 1);
        Due.rules(q, "near 2;");
        due.is("near 2", q.fit(1, 0), 2);
        due.is("a faulty text changes nothing", Due.rules(q, "near 0"), -11);
        due.is("near 2 still", q.fit(1, 0), 2);
        Due.rules(q, "");
        due.is("near 0 again", q.fit(1, 0), 0);
    }

    private static void counts() {
        Counted q = new Counted();
        q.letter(0, 20, Due.NONE);
        Due.tell(q, 0, 0, 1, 2);
        q.letter(1, 10, 0);
        Due.tell(q, 1, 1, 1, 3);
        Due.tell(q, 1, 1, 9, 9);
        Due.tell(q, 1, 3, 9, 9);
        q.letter(2, 30, 1);
        Due.tell(q, 2, 2, 9, 9);
        Due.tell(q, 2, 2, 1, 3);
        Due.rules(q, "near 1;");
        q.word(1);
        q.sign(1);
        q.sign(0);
        Due.feed(q, "abc");
        int[] counts = {3, 3, 1, 1, 1, 3, 1, 1, 2, 3, -1};
        for (int what = 0; what < counts.length; what++) {
            due.is("count(" + what + ")", q.count(what), counts[what]);
        }
        q.known(2);
        int[] fewer = {3, 2, 1, 1, 1, 2, 1, 1, 2, 3, 2};
        for (int what = 0; what < fewer.length; what++) {
            due.is("known by 2: count(" + what + ")", q.count(what), fewer[what]);
        }
        due.is("count(-1)", q.count(-1), Due.OUTSIDE);
        due.is("count(11)", q.count(11), Due.OUTSIDE);
        due.is("count(MAX)", q.count(Due.MAX), Due.OUTSIDE);
    }
}
