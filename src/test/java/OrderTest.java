/** Promises 20 to 22: order of writing, days that quarrel, spans. */
public final class OrderTest {
    private static final Due due = new Due("OrderTest");

    public static void main(String[] args) {
        orders();
        quarrels();
        spans();
        due.end();
    }

    private static void orders() {
        Counted q = new Counted();
        q.letter(0, Due.NONE, Due.NONE);
        Due.tell(q, 0, 1, 1);
        q.letter(0, Due.NONE, Due.NONE);
        q.letter(0, Due.NONE, 0);
        q.letter(0, Due.NONE, Due.NONE);
        Due.tell(q, 3, 0, 1);
        int[] order = {1, 3, 0, 2, Due.NONE};
        for (int i = 0; i < order.length; i++) {
            due.is("order(" + i + ")", q.order(i), order[i]);
        }
        due.is("order(-1)", q.order(-1), Due.NONE);
        due.is("order(MAX)", q.order(Due.MAX), Due.NONE);
        due.is("order(MIN)", q.order(Due.MIN), Due.NONE);
        q.take(1);
        due.is("of seen ones", q.order(0), 3);
        due.is("of seen ones", q.order(3), Due.NONE);
        q.known(1);
        due.is("as known", q.order(0), 0);
        due.is("as known", q.order(1), Due.NONE);
    }

    private static void quarrels() {
        Counted q = new Counted();
        q.letter(0, 50, Due.NONE);
        q.letter(0, 49, 0);
        q.letter(0, 50, 0);
        q.letter(0, Due.NONE, 0);
        q.letter(0, 0, 3);
        q.letter(0, 0, 2);
        due.is("quarrel(0)", q.quarrel(0), 1);
        due.is("quarrel(1)", q.quarrel(1), 5);
        due.is("quarrel(2)", q.quarrel(2), Due.NONE);
        due.is("quarrel(-1)", q.quarrel(-1), Due.NONE);
        due.is("quarrel(MAX)", q.quarrel(Due.MAX), Due.NONE);
        due.is("count(7)", q.count(7), 2);
        q.take(1);
        due.is("of seen ones", q.quarrel(0), 5);
        Due.rules(q, "trust no;");
        due.is("no parents", q.quarrel(0), Due.NONE);
    }

    private static void spans() {
        Counted q = new Counted();
        q.letter(0, Due.NONE, Due.NONE);
        q.letter(0, 70, 0);
        q.letter(0, 30, 1);
        q.letter(0, Due.NONE, 2);
        q.letter(0, Due.NONE, 3);
        q.letter(0, 90, 3);
        q.letter(0, 80, 4);
        due.is("greatest on its way up", q.span(4, 0), 70);
        due.is("least of those below", q.span(4, 1), 80);
        due.is("least of all below", q.span(3, 1), 80);
        due.is("none above", q.span(0, 0), 0);
        due.is("below", q.span(0, 1), 30);
        due.is("a day that is told", q.span(2, 0), 30);
        due.is("a day that is told", q.span(2, 1), 30);
        q.take(6);
        due.is("none below", q.span(4, 1), 9999);
        due.is("another below", q.span(3, 1), 90);
        due.is("not seen", q.span(6, 0), Due.NOT);
        due.is("outside ahead of not", q.span(6, 2), Due.OUTSIDE);
        due.is("outside", q.span(0, -1), Due.OUTSIDE);
        due.is("unknown ahead of outside", q.span(7, 2), Due.UNKNOWN);
        due.is("unknown", q.span(-1, 0), Due.UNKNOWN);
        q.take(3);
        due.is("the way is cut", q.span(4, 0), 0);
        q = new Counted();
        q.letter(0, 15, Due.NONE);
        Due.tell(q, 0, 1, 1);
        q.letter(0, Due.NONE, Due.NONE);
        Due.tell(q, 1, 0, 1);
        due.is("below it one told ahead of it", q.span(1, 1), 15);
    }
}
