/** Promises 23 to 26: seeking, and what others still have of letters taken back. */
public final class SeekTest {
    private static final Due due = new Due("SeekTest");

    public static void main(String[] args) {
        signs();
        places();
        seekRefusals();
        stillThere();
        stillNeedsTheSameText();
        stillAsItWouldBe();
        stillAsKnown();
        stillOfTwo();
        due.end();
    }

    private static void signs() {
        Counted q = new Counted();
        due.is("clear of none", q.clear(), 0);
        due.is("sign(-1)", q.sign(-1), Due.OUTSIDE);
        due.is("sign(64)", q.sign(64), Due.OUTSIDE);
        for (int k = 1; k <= 4; k++) {
            due.is("sign " + k, q.sign(k == 1 ? 0 : 63), k);
        }
        due.is("sign 5", q.sign(0), Due.FULL);
        due.is("sign 5, outside", q.sign(64), Due.OUTSIDE);
        due.is("count(8)", q.count(8), 4);
        due.is("clear", q.clear(), 4);
        due.is("clear again", q.clear(), 0);
        due.is("count(8)", q.count(8), 0);
    }

    private static Counted some() {
        Counted q = new Counted();
        q.letter(3, 0, Due.NONE);
        Due.tell(q, 0, 0, 1, 2, 1, 2, 3);
        Due.tell(q, 0, 2, 1, 3);
        Due.tell(q, 0, 0);
        q.letter(4, 0, Due.NONE);
        Due.tell(q, 1, 1, 5, 6, 7, 8, 1, 2, 3, 4);
        Due.tell(q, 1, 0, 2, 1);
        Due.tell(q, 1, 0, 1, 9, 3);
        return q;
    }

    private static void seekIs(String name, Counted q, int writer, int where, int... places) {
        due.is(name + ": how many", q.seek(writer, where, Due.NONE), places.length);
        for (int i = 0; i < places.length; i++) {
            due.is(name + ": place " + i, q.seek(writer, where, i), places[i]);
        }
        due.is(name + ": behind", q.seek(writer, where, places.length), Due.NONE);
        due.is(name + ": -2", q.seek(writer, where, -2), Due.NONE);
    }

    private static void places() {
        Counted q = some();
        q.sign(1);
        seekIs("a word, each line once", q, Due.NONE, 0, 0, 1, 14, 15, 16);
        seekIs("own", q, Due.NONE, 1, 0, 15, 16);
        seekIs("quoted", q, Due.NONE, 2, 1, 14);
        seekIs("by 4", q, 4, 0, 14, 15, 16);
        seekIs("by 4, own", q, 4, 1, 15, 16);
        seekIs("by 5", q, 5, 0);
        q.sign(0);
        seekIs("any behind it", q, Due.NONE, 0, 0, 1, 14, 16);
        q.sign(3);
        seekIs("any between", q, Due.NONE, 0, 0, 14, 16);
        q.sign(4);
        seekIs("at the line's end", q, Due.NONE, 0, 14);
        q.clear();
        q.sign(2);
        q.sign(1);
        seekIs("side by side", q, Due.NONE, 0, 0, 15);
        q.clear();
        q.sign(0);
        q.sign(0);
        q.sign(0);
        q.sign(0);
        seekIs("four of any kind", q, Due.NONE, 0, 0, 14);
        q.take(0);
        seekIs("taken", q, Due.NONE, 0, 14);
        q.known(1);
        seekIs("known", q, Due.NONE, 0);
    }

    private static void seekRefusals() {
        Counted q = some();
        due.is("empty", q.seek(Due.NONE, 0, Due.NONE), Due.NOT);
        due.is("outside ahead of not", q.seek(-2, 0, 0), Due.OUTSIDE);
        due.is("outside", q.seek(10, 0, 0), Due.OUTSIDE);
        due.is("outside", q.seek(0, 3, 0), Due.OUTSIDE);
        due.is("outside", q.seek(0, -1, 0), Due.OUTSIDE);
    }

    private static void stillThere() {
        Counted q = new Counted();
        due.is("unknown", q.still(0), Due.UNKNOWN);
        q.letter(0, 1, Due.NONE);
        Due.tell(q, 0, 0, 1);
        Due.tell(q, 0, 0, 2);
        Due.tell(q, 0, 0, 3);
        Due.tell(q, 0, 1, 4);
        q.answer(0, 1, 2);
        q.letter(2, 3, 1);
        Due.tell(q, 2, 2, 3);
        due.is("not taken", q.still(0), Due.NOT);
        q.take(0);
        due.is("all own ones", q.still(0), 7);
        q.take(1);
        due.is("none has them as origin", q.still(0), 0);
        due.is("an answer has no own lines", q.still(1), 0);
        q.put(1);
        due.is("again", q.still(0), 7);
        q.known(1);
        due.is("only 0 is known", q.still(0), 0);
        due.is("unknown", q.still(3), Due.UNKNOWN);
        due.is("still changes nothing", q.about(0, 5), 0);
    }

    private static void stillNeedsTheSameText() {
        Counted q = new Counted();
        Due.rules(q, "near 1;");
        q.letter(0, 1, Due.NONE);
        Due.tell(q, 0, 0, 1, 2);
        Due.tell(q, 0, 0, 1, 2);
        q.letter(1, 2, 0);
        Due.tell(q, 1, 1, 1, 3);
        q.take(0);
        due.is("altered", q.still(0), 0);
        q.letter(2, 2, 0);
        Due.tell(q, 2, 1, 1, 2);
        due.is("the first of two like ones alone is the origin", q.still(0), 1);
        q.letter(3, 3, 1);
        Due.tell(q, 3, 2, 1, 2);
        q.take(2);
        due.is("altered once and back again", q.still(0), 1);
    }

    private static void stillAsItWouldBe() {
        Counted q = new Counted();
        q.letter(0, 1, Due.NONE);
        Due.tell(q, 0, 0, 1);
        q.letter(1, 1, Due.NONE);
        Due.tell(q, 1, 0, 1);
        q.letter(2, 2, Due.NONE);
        Due.tell(q, 2, 1, 1);
        q.take(0);
        due.is("now it is held to 1", q.origin(2, 0, 0), 1);
        due.is("but would be to 0", q.still(0), 1);
        q.put(0);
        q.take(1);
        due.is("0 would stay the parent", q.still(1), 0);
        due.is("of this too", q.origin(2, 0, 0), 0);
    }

    private static void stillOfTwo() {
        Counted q = new Counted();
        q.letter(0, 1, Due.NONE);
        Due.tell(q, 0, 0, 1);
        q.letter(1, 1, Due.NONE);
        Due.tell(q, 1, 0, 2);
        Due.tell(q, 1, 0, 3);
        q.letter(2, 2, 0);
        Due.tell(q, 2, 1, 1);
        q.letter(3, 2, 1);
        Due.tell(q, 3, 1, 3);
        q.take(0);
        q.take(1);
        due.is("of the one", q.still(0), 1);
        due.is("of the other", q.still(1), 2);
        due.is("of the one again", q.still(0), 1);
    }

    private static void stillAsKnown() {
        Counted q = new Counted();
        q.letter(0, 1, Due.NONE);
        Due.tell(q, 0, 1, 1);
        q.letter(1, 1, Due.NONE);
        Due.tell(q, 1, 0, 1);
        q.take(1);
        due.is("quoted by one told ahead of it", q.still(1), 1);
        q.known(1);
        due.is("put back it would not be known", q.still(1), 0);
    }
}
