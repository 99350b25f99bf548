/** Terms, part 4: ORDER of writing, QUARRELS, SPANS, what is SOUGHT, what is STILL THERE. */
public final class Terms4Test {
    private static final Due due = new Due("Terms4Test");
    private static final int NONE = Due.NONE;

    public static void main(String[] args) {
        orderByNumbers();
        orderBehindParents();
        leastThatIsNotWritten();
        orderOfNone();
        quarrelByOneDay();
        quarrelOfUntoldDays();
        quarrelWithParentAlone();
        spanWithoutDays();
        spanOfAToldDay();
        spanUpwards();
        spanDownwards();
        spanOverTheWholeWay();
        patternLengths();
        patternAtBothEnds();
        anyIsOneWord();
        soughtByWriter();
        soughtWhere();
        placesByNumbers();
        stillOwnLinesAlone();
        stillBySeenLetter();
        stillWithTheSameText();
        stillThroughDepths();
        stillWhoseOriginItWouldBe();
        stillWereItPutBack();
        stillOfAllLines();
        stillOfTwoByTurns();
        due.end();
    }

    private static void orderIs(String name, Counted q, int... order) {
        for (int i = 0; i < order.length; i++) {
            due.is(name + ": order(" + i + ")", q.order(i), order[i]);
        }
        due.is(name + ": behind", q.order(order.length), NONE);
    }

    private static void orderByNumbers() {
        due.sentence("ORDER of writing: each LETTER behind its PARENT; else by numbers");
        Counted q = new Counted();
        for (int x = 0; x < 40; x++) {
            q.letter(0, 40 - x, NONE);
        }
        for (int i : new int[] {0, 1, 38, 39}) {
            due.is("days do not matter: order(" + i + ")", q.order(i), i);
        }
        due.is("behind the last", q.order(40), NONE);
        q.take(39);
        due.is("the last is not seen", q.order(39), NONE);
        due.is("the last but one", q.order(38), 38);
        q.put(39);
        q.take(0);
        due.is("the first is not seen", q.order(39), NONE);
        due.is("the last", q.order(38), 39);
    }

    private static void orderBehindParents() {
        due.sentence("each LETTER behind its PARENT");
        Counted q = new Counted();
        for (int x = 0; x < 39; x++) {
            Due.letterOf(q, 1, x + 2);
            Due.tell(q, x, 0, x + 1);
        }
        Due.letterOf(q, 0, 40);
        for (int i = 0; i < 40; i++) {
            due.is("each quotes the next: order(" + i + ")", q.order(i), 39 - i);
        }
        due.is("behind the last", q.order(40), NONE);
    }

    private static void leastThatIsNotWritten() {
        due.sentence("again and again the least that is not written, and whose PARENT is (or that has none)");
        Counted q = new Counted();
        Due.letterOf(q, 1, 1);
        Due.letterOf(q, 0, 9);
        Due.letterOf(q, 1, 2);
        Due.letterOf(q, 0, 1);
        q.letter(0, NONE, 0);
        Due.letterOf(q, 0, 2);
        orderIs("0 waits for 3, 2 for 5", q, 1, 3, 0, 4, 5, 2);
        q.take(3);
        orderIs("3 is not seen", q, 0, 1, 4, 5, 2);
        q.take(5);
        orderIs("nor is 5", q, 0, 1, 2, 4);
        q.known(3);
        orderIs("as known by 3", q, 0, 1, 2);
    }

    private static void orderOfNone() {
        due.sentence("ORDER of writing");
        Counted q = new Counted();
        orderIs("no letters", q);
        q.letter(0, NONE, NONE);
        orderIs("one", q, 0);
        q.take(0);
        orderIs("one that is not seen", q);
    }

    private static void quarrelByOneDay() {
        due.sentence("QUARREL: a LETTER whose DAY is ahead of its PARENT's");
        int[][] days = {{10, 9, 1}, {10, 10, 0}, {10, 11, 0}, {1, 0, 1}, {0, 0, 0}, {9999, 9998, 1}, {9999, 0, 1},
            {9999, 9999, 0}, {0, 9999, 0}};
        for (int[] day : days) {
            Counted q = new Counted();
            q.letter(0, day[0], NONE);
            q.letter(0, day[1], 0);
            due.is("parent of " + day[0] + ", letter of " + day[1], q.count(7), day[2]);
            due.is("which", q.quarrel(0), day[2] == 1 ? 1 : NONE);
        }
    }

    private static void quarrelOfUntoldDays() {
        due.sentence("(both told)");
        int[][] days = {{NONE, 0}, {9999, NONE}, {NONE, NONE}, {0, NONE}, {NONE, 9999}};
        for (int[] day : days) {
            Counted q = new Counted();
            q.letter(0, day[0], NONE);
            q.letter(0, day[1], 0);
            due.is("parent of " + day[0] + ", letter of " + day[1], q.count(7), 0);
            due.is("none", q.quarrel(0), NONE);
        }
    }

    private static void quarrelWithParentAlone() {
        due.sentence("QUARREL: a LETTER whose DAY is ahead of its PARENT's (both told)");
        Counted q = new Counted();
        q.letter(0, 50, NONE);
        q.letter(0, NONE, 0);
        q.letter(0, 10, 1);
        due.is("the parent's parent is later, the parent is not told", q.count(7), 0);
        q.letter(0, 10, 0);
        q.letter(0, 49, 0);
        due.is("first", q.quarrel(0), 3);
        due.is("second", q.quarrel(1), 4);
        due.is("no third", q.quarrel(2), NONE);
        q = new Counted();
        q.letter(0, 9999, NONE);
        for (int x = 1; x < 40; x++) {
            q.letter(0, 0, 0);
        }
        due.is("all but the parent", q.count(7), 39);
        due.is("the last", q.quarrel(38), 39);
        due.is("behind it", q.quarrel(39), NONE);
    }

    private static void spanIs(String name, Counted q, int x, int least, int greatest) {
        due.is(name + ": the least", q.span(x, 0), least);
        due.is(name + ": the greatest", q.span(x, 1), greatest);
    }

    private static void spanWithoutDays() {
        due.sentence("from the greatest DAY told of those on its way up (0) to the least of those below it (9999)");
        Counted q = new Counted();
        q.letter(0, NONE, NONE);
        spanIs("alone", q, 0, 0, 9999);
        q.letter(0, NONE, 0);
        q.letter(0, NONE, 1);
        spanIs("between others without a day", q, 1, 0, 9999);
        q.letter(0, 50, NONE);
        spanIs("another thread has a day", q, 1, 0, 9999);
        q.letter(0, 60, 0);
        spanIs("one beside it has a day", q, 1, 0, 9999);
        spanIs("above that one", q, 0, 0, 60);
    }

    private static void spanOfAToldDay() {
        due.sentence("of one with a DAY: that");
        for (int day : new int[] {0, 1, 5000, 9999}) {
            Counted q = new Counted();
            q.letter(0, 6000, NONE);
            q.letter(0, day, 0);
            q.letter(0, 4000, 1);
            spanIs("day " + day, q, 1, day, day);
        }
    }

    private static void spanUpwards() {
        due.sentence("from the greatest DAY told of those on its way up (0)");
        int[][] ways = {{0, 0}, {9999, 9999}, {20, 30, 10, 30}, {30, 20, 10, 30}, {10, 20, 30, 30}, {NONE, 7, NONE, 7},
            {7, NONE, NONE, 7}};
        for (int[] way : ways) {
            Counted q = new Counted();
            for (int x = 0; x < way.length - 1; x++) {
                q.letter(0, way[x], x - 1);
            }
            q.letter(0, NONE, way.length - 2);
            spanIs("below " + way[0] + " ..", q, way.length - 1, way[way.length - 1], 9999);
        }
    }

    private static void spanDownwards() {
        due.sentence("to the least of those below it (9999)");
        int[][] ways = {{0, 0}, {9999, 9999}, {20, 10, 30, 10}, {10, 20, 30, 10}, {30, 20, 10, 10}, {NONE, 7, NONE, 7},
            {NONE, NONE, 7, 7}};
        for (int[] way : ways) {
            Counted chain = new Counted();
            Counted fan = new Counted();
            chain.letter(0, NONE, NONE);
            fan.letter(0, NONE, NONE);
            for (int x = 0; x < way.length - 1; x++) {
                chain.letter(0, way[x], x);
                fan.letter(0, way[x], 0);
            }
            spanIs("above " + way[0] + " .., one below the other", chain, 0, 0, way[way.length - 1]);
            spanIs("above " + way[0] + " .., side by side", fan, 0, 0, way[way.length - 1]);
        }
        Counted q = new Counted();
        Due.letterOf(q, 1, 1);
        q.letter(0, 33, 0);
        Due.letterOf(q, 0, 1);
        spanIs("below it those with lesser numbers", q, 2, 0, 33);
    }

    private static void spanOverTheWholeWay() {
        due.sentence("of those on its way up (0) to the least of those below it");
        Counted q = new Counted();
        q.letter(0, 40, NONE);
        for (int x = 1; x < 39; x++) {
            q.letter(0, NONE, x - 1);
        }
        q.letter(0, 30, 38);
        spanIs("next to the first", q, 1, 40, 30);
        spanIs("next to the last", q, 38, 40, 30);
        q.take(20);
        spanIs("cut: above", q, 19, 40, 9999);
        spanIs("cut: below", q, 21, 0, 30);
    }

    private static void patternIs(Counted q, int... signs) {
        q.clear();
        for (int w : signs) {
            q.sign(w);
        }
    }

    private static void foundIs(String name, Counted q, int... places) {
        due.is(name + ": places", q.seek(NONE, 0, NONE), places.length);
        for (int i = 0; i < places.length; i++) {
            due.is(name + ": place " + i, q.seek(NONE, 0, i), places[i]);
        }
        due.is(name + ": behind", q.seek(NONE, 0, places.length), NONE);
    }

    private static void patternLengths() {
        due.sentence("a PATTERN of up to 4 WORDS (0: any) side by side in a LINE");
        Counted q = new Counted();
        q.letter(0, NONE, NONE);
        int[][] texts = {{}, {1}, {1, 1}, {1, 1, 1}, {1, 1, 1, 1}, {1, 1, 1, 1, 1, 1, 1, 1}};
        for (int[] text : texts) {
            Due.tell(q, 0, 0, text);
        }
        patternIs(q, 1);
        foundIs("one", q, 1, 2, 3, 4, 5);
        q.sign(1);
        foundIs("two", q, 2, 3, 4, 5);
        q.sign(1);
        foundIs("three", q, 3, 4, 5);
        q.sign(1);
        foundIs("four", q, 4, 5);
        due.is("five", q.sign(1), Due.FULL);
        foundIs("four still", q, 4, 5);
    }

    private static void patternAtBothEnds() {
        due.sentence("a PATTERN of up to 4 WORDS (0: any) side by side in a LINE");
        Counted q = new Counted();
        q.letter(0, NONE, NONE);
        Due.tell(q, 0, 0, 1, 2, 3, 4, 5, 6, 7, 63);
        Due.tell(q, 0, 0, 4, 3, 2, 1);
        patternIs(q, 1, 2, 3, 4);
        foundIs("at the start", q, 0);
        patternIs(q, 5, 6, 7, 63);
        foundIs("at the end", q, 0);
        patternIs(q, 6, 7, 63, 0);
        foundIs("behind the end", q);
        patternIs(q, 0, 1, 2, 3);
        foundIs("ahead of the start", q);
        patternIs(q, 1, 3);
        foundIs("not side by side", q);
        patternIs(q, 2, 1);
        foundIs("in their order", q, 1);
        patternIs(q, 63);
        foundIs("the greatest word", q, 0);
        patternIs(q, 1, 1);
        foundIs("one word is not two", q);
    }

    private static void anyIsOneWord() {
        due.sentence("(0: any)");
        Counted q = new Counted();
        q.letter(0, NONE, NONE);
        Due.tell(q, 0, 0);
        Due.tell(q, 0, 0, 5);
        Due.tell(q, 0, 0, 5, 6);
        Due.tell(q, 0, 0, 5, 9, 6);
        Due.tell(q, 0, 0, 5, 9, 9, 6);
        patternIs(q, 0);
        foundIs("any, but not none", q, 1, 2, 3, 4);
        patternIs(q, 0, 0, 0, 0);
        foundIs("four of any", q, 4);
        patternIs(q, 5, 0, 6);
        foundIs("one between", q, 3);
        patternIs(q, 5, 0, 0, 6);
        foundIs("two between", q, 4);
        patternIs(q, 0, 6);
        foundIs("one ahead", q, 2, 3, 4);
        patternIs(q, 5, 0);
        foundIs("one behind", q, 2, 3, 4);
    }

    private static void soughtByWriter() {
        due.sentence("by a WRITER (of the LETTER; NONE: any)");
        Counted q = new Counted();
        for (int writer = 0; writer < 10; writer++) {
            q.letter(writer, NONE, NONE);
            Due.tell(q, writer, 0, 7);
        }
        q.answer(0, 9, NONE);
        q.sign(7);
        due.is("any", q.seek(NONE, 0, NONE), 11);
        due.is("by 0: their own, not what others quote", q.seek(0, 0, NONE), 1);
        due.is("by 9: what is quoted too", q.seek(9, 0, NONE), 2);
        due.is("by 9, the first", q.seek(9, 0, 0), 14 * 9);
        due.is("by 9, the second", q.seek(9, 0, 1), 14 * 10);
        due.is("by 9, no third", q.seek(9, 0, 2), NONE);
    }

    private static void soughtWhere() {
        due.sentence("WHERE: 0 in all LINES, 1 in own ones, 2 in quoted ones");
        Counted q = new Counted();
        q.letter(0, NONE, NONE);
        for (int depth = 0; depth <= 5; depth++) {
            Due.tell(q, 0, depth, 7);
        }
        q.sign(7);
        int[] found = {6, 1, 5};
        int[] last = {5, 0, 5};
        for (int where = 0; where <= 2; where++) {
            due.is("where " + where, q.seek(NONE, where, NONE), found[where]);
            due.is("the last of where " + where, q.seek(NONE, where, found[where] - 1), last[where]);
            due.is("behind it", q.seek(NONE, where, found[where]), NONE);
        }
        due.is("the first quoted one", q.seek(NONE, 2, 0), 1);
    }

    private static void placesByNumbers() {
        due.sentence("PLACES (a LETTER, a LINE), by these");
        Counted q = new Counted();
        for (int x = 0; x < 40; x++) {
            q.letter(0, NONE, NONE);
        }
        Due.tell(q, 39, 0, 7);
        Due.tell(q, 0, 0, 7, 7);
        Due.tell(q, 0, 1, 7);
        Due.tell(q, 20, 0, 8);
        Due.tell(q, 20, 5, 7);
        q.sign(7);
        foundIs("each line once", q, 0, 1, 14 * 20 + 1, 14 * 39);
        q.take(0);
        foundIs("0 is taken back", q, 14 * 20 + 1, 14 * 39);
        q.known(39);
        foundIs("39 is not known", q, 14 * 20 + 1);
    }

    private static void stillOwnLinesAlone() {
        due.sentence("STILL THERE: own LINES of a LETTER that is TAKEN BACK");
        Counted q = new Counted();
        Due.letterOf(q, 0, 1);
        q.letter(0, NONE, 0);
        Due.tell(q, 1, 1, 1);
        Due.tell(q, 1, 0, 2);
        q.letter(0, NONE, 1);
        Due.tell(q, 2, 2, 1);
        Due.tell(q, 2, 1, 2);
        q.take(1);
        due.is("line 1 alone: line 0 is not its own", q.still(1), 2);
        q.take(0);
        due.is("of the first: none comes to it", q.still(0), 0);
    }

    private static void stillBySeenLetter() {
        due.sentence("for which some SEEN LETTER has a quoted LINE");
        Counted q = new Counted();
        Due.letterOf(q, 0, 1, 2);
        q.letter(0, NONE, 0);
        Due.tell(q, 1, 1, 1);
        q.letter(0, NONE, 0);
        Due.tell(q, 2, 1, 2);
        q.take(0);
        due.is("both", q.still(0), 3);
        q.take(1);
        due.is("one of the two is taken back", q.still(0), 2);
        q.known(2);
        due.is("the other is not known", q.still(0), 0);
        q.put(1);
        due.is("the one is put back", q.still(0), 1);
        Due.tell(q, 1, 0, 2);
        due.is("an own line with the text does not count", q.still(0), 1);
    }

    private static void stillWithTheSameText() {
        due.sentence("has a quoted LINE with the same TEXT");
        Counted q = new Counted();
        Due.rules(q, "near 2;");
        q.letter(0, NONE, NONE);
        Due.tell(q, 0, 0, 1, 2, 3);
        q.letter(0, NONE, 0);
        Due.tell(q, 1, 1, 1, 2, 4);
        q.take(0);
        due.is("held to it, but altered", q.still(0), 0);
        Due.tell(q, 1, 1, 1, 2, 3);
        due.is("quoted as it was written", q.still(0), 1);
    }

    private static void stillThroughDepths() {
        due.sentence("whose ORIGIN would be that LINE");
        Counted q = new Counted();
        Due.letterOf(q, 0, 1);
        for (int x = 0; x < 5; x++) {
            q.answer(x, 0, NONE);
        }
        q.take(0);
        due.is("quoted in five", q.still(0), 1);
        q.known(2);
        due.is("in the first of these alone", q.still(0), 1);
        q.known(NONE);
        q.take(1);
        due.is("behind a gap", q.still(0), 0);
    }

    private static void stillWhoseOriginItWouldBe() {
        due.sentence("whose ORIGIN would be that LINE");
        Counted q = new Counted();
        Due.letterOf(q, 0, 1, 1);
        q.letter(0, NONE, 0);
        Due.tell(q, 1, 1, 1);
        Due.letterOf(q, 1, 1);
        q.take(0);
        due.is("the first of two with the same text", q.still(0), 1);
        q = new Counted();
        Due.letterOf(q, 0, 1);
        Due.letterOf(q, 0, 2);
        q.letter(0, NONE, 1);
        Due.tell(q, 2, 1, 1);
        q.take(0);
        due.is("the same text in one that answers another", q.still(0), 0);
    }

    private static void stillWereItPutBack() {
        due.sentence("were it put back");
        Counted q = new Counted();
        Due.letterOf(q, 0, 1);
        Due.letterOf(q, 0, 1);
        Due.letterOf(q, 1, 1);
        q.take(0);
        due.is("now the second is the parent", q.about(2, 6), 1);
        due.is("the first would be", q.still(0), 1);
        due.is("it is not put back by that", q.about(2, 6), 1);
        due.is("nor seen", q.about(0, 5), 0);
        q.take(1);
        due.is("of the second, while the first is taken back", q.still(1), 1);
        q.put(0);
        due.is("of the second, while the first is there", q.still(1), 0);
        q.known(1);
        due.is("of the second, which is not known", q.still(1), 0);
    }

    private static void stillOfAllLines() {
        due.sentence("own LINES of a LETTER that is TAKEN BACK");
        Counted q = new Counted();
        Due.letterOf(q, 0, 1, 2, 3, 4, 5, 6, 7, 8, 9, 10, 11, 12, 13, 14);
        q.answer(0, 0, NONE);
        q.take(0);
        due.is("fourteen", q.still(0), 16383);
        for (int x = 2; x < 39; x++) {
            q.letter(0, NONE, NONE);
        }
        q.take(1);
        due.is("none", q.still(0), 0);
        q.answer(0, 0, NONE);
        due.is("by the last letter", q.still(0), 16383);
    }

    private static void stillOfTwoByTurns() {
        due.sentence("were it put back");
        Counted q = new Counted();
        Due.letterOf(q, 0, 1);
        Due.letterOf(q, 0, 9, 2);
        Due.letterOf(q, 1, 1);
        Due.letterOf(q, 1, 2);
        q.take(0);
        q.take(1);
        for (int round = 0; round < 2; round++) {
            due.is("of the one", q.still(0), 1);
            due.is("of the other", q.still(1), 2);
        }
        due.is("neither is a parent now", q.about(2, 6) + q.about(3, 6), 2 * NONE);
    }
}
