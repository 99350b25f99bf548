/** Promises 27 to 30: the text of the rules, its faults, the rules. */
public final class RulesTest {
    private static final Due due = new Due("RulesTest");

    public static void main(String[] args) {
        feeding();
        goodTexts();
        cannotStand();
        badNumbers();
        toldAlready();
        rulesStayOnFault();
        ruleRefusals();
        due.end();
    }

    private static void feeding() {
        Counted q = new Counted();
        for (int n : new int[] {0, 9, -1, Due.MIN, Due.MAX}) {
            due.is("feed(" + n + ")", q.feed(n, 0), Due.OUTSIDE);
        }
        due.is("the lowest bytes, the highest of these first", q.feed(4, 0x1122334466697420L), 4);
        due.is("three more", q.feed(3, 0x00393B20L), 7);
        due.is("count(9)", q.count(9), 7);
        due.is("read", q.read(), 1);
        due.is("count(9)", q.count(9), 0);
        due.is("fit", q.rule(1), 9);
        for (int k = 1; k <= 14; k++) {
            due.is("feed eight", q.feed(8, 0x2020202020202020L), 8 * k);
        }
        due.is("feed seven", q.feed(7, 0x20202020202020L), 119);
        due.is("feed two", q.feed(2, 0x2020L), Due.FULL);
        due.is("feed nine", q.feed(9, 0x2020L), Due.OUTSIDE);
        due.is("feed one", q.feed(1, 0x20L), 120);
        due.is("feed one more", q.feed(1, 0x20L), Due.FULL);
        due.is("count(9)", q.count(9), 120);
        due.is("read", q.read(), 0);
        due.is("eight bytes, the sign bit too", q.feed(8, -1L), 8);
        due.is("read", q.read(), -11);
        due.is("fault", q.fault(), 0);
    }

    private static void good(String text, int clauses, int... rules) {
        Counted q = new Counted();
        due.is("'" + text + "'", Due.rules(q, text), clauses);
        due.is("'" + text + "': fault", q.fault(), Due.NONE);
        for (int what = 0; what < 5; what++) {
            due.is("'" + text + "': rule(" + what + ")", q.rule(what), rules[what]);
        }
    }

    private static void goodTexts() {
        good("", 0, 0, 50, 1, 14, 5);
        good("   ", 0, 0, 50, 1, 14, 5);
        good("near 2;", 1, 2, 50, 1, 14, 5);
        good("near2;fit100;trust no;keep0;deep0;", 5, 2, 100, 0, 0, 0);
        good("  deep  4  ;  trust  yes  ;keep 13 ;fit 0;near 1;  ", 5, 1, 0, 1, 13, 4);
        good("near 002;fit 007;", 2, 2, 7, 1, 14, 5);
        good("keep 014;deep 5;", 2, 0, 50, 1, 14, 5);
        good("trust no;", 1, 0, 50, 0, 14, 5);
    }

    private static void bad(String text, int kind, int at) {
        Counted q = new Counted();
        due.is("'" + text + "'", Due.rules(q, text), -10 - kind);
        due.is("'" + text + "': fault", q.fault(), at);
        due.is("'" + text + "': text is empty then", q.count(9), 0);
    }

    private static void cannotStand() {
        bad(";", 1, 0);
        bad("x", 1, 0);
        bad("5", 1, 0);
        bad("12345", 1, 0);
        bad("near", 1, 4);
        bad("near  ", 1, 6);
        bad("near 1", 1, 6);
        bad("near 1 ", 1, 7);
        bad("near;", 1, 4);
        bad("near yes;", 1, 5);
        bad("near near 1;", 1, 5);
        bad("near 1 1;", 1, 7);
        bad("near 1 2222;", 1, 7);
        bad("near 1x;", 1, 6);
        bad("near 1;;", 1, 7);
        bad("near 1,", 1, 6);
        bad("nea r 1;", 1, 0);
        bad("nearer 1;", 1, 0);
        bad("nearz 1;", 1, 0);
        bad("neara 1;", 1, 0);
        bad("  nea", 1, 2);
        bad("Near 1;", 1, 0);
        bad("neAr 1;", 1, 0);
        bad("near\t1;", 1, 4);
        bad("near -1;", 1, 5);
        bad("near +1;", 1, 5);
        bad("trust 1;", 1, 6);
        bad("trust 1234;", 1, 6);
        bad("trustyes;", 1, 0);
        bad("trust yesno;", 1, 6);
        bad("trust ye;", 1, 6);
        bad("trust yes1;", 1, 9);
        bad("trust yes no;", 1, 10);
        bad("trust", 1, 5);
        bad("trust;", 1, 5);
        bad("trust near;", 1, 6);
        bad("yes;", 1, 0);
        bad("fit 1;keep 2;x", 1, 13);
        bad("near 1;\0", 1, 7);
        bad("near 1; \u00a0", 1, 8);
        bad("`", 1, 0);
        bad("{", 1, 0);
        bad("fit :;", 1, 4);
        bad("fit /;", 1, 4);
    }

    private static void badNumbers() {
        bad("near 3;", 2, 5);
        bad("near 3", 2, 5);
        bad("fit 101;", 2, 4);
        bad("fit 999x", 2, 4);
        bad("keep 15;", 2, 5);
        bad("deep 6;", 2, 5);
        bad("near 0000;", 2, 5);
        bad("near 0001", 2, 5);
        bad("fit 99999999999999999999;", 2, 4);
        bad("fit 1000000000000000000000000000000000000000000000000000000000000000000000", 2, 4);
        bad("near 1; fit   500;", 2, 14);
        bad("near 4 near", 2, 5);
    }

    private static void toldAlready() {
        bad("near 1;near 1;", 3, 7);
        bad("near 1; near", 3, 8);
        bad("near 1; near 9;", 3, 8);
        bad("near 1; near;", 3, 8);
        bad("trust no;fit 1;trust no;", 3, 15);
        bad("near 1;nearx", 1, 7);
        bad("near 9;near 1;", 2, 5);
    }

    private static void rulesStayOnFault() {
        Counted q = new Counted();
        Due.rules(q, "near 1;fit 20;trust no;keep 3;deep 2;");
        due.is("fault", Due.rules(q, "near 2;fit 30;trust yes;keep 4;deep"), -11);
        due.is("its byte", q.fault(), 35);
        int[] rules = {1, 20, 0, 3, 2};
        for (int what = 0; what < 5; what++) {
            due.is("rule(" + what + ") stays", q.rule(what), rules[what]);
        }
        due.is("fault stays while a text is fed", q.feed(1, ' '), 1);
        due.is("its byte", q.fault(), 35);
        due.is("what a text does not tell is as at first", Due.rules(q, "keep 1;"), 1);
        due.is("no fault", q.fault(), Due.NONE);
        int[] then = {0, 50, 1, 1, 5};
        for (int what = 0; what < 5; what++) {
            due.is("then rule(" + what + ")", q.rule(what), then[what]);
        }
    }

    private static void ruleRefusals() {
        Counted q = new Counted();
        due.is("rule(-1)", q.rule(-1), Due.OUTSIDE);
        due.is("rule(5)", q.rule(5), Due.OUTSIDE);
        due.is("rule(MIN)", q.rule(Due.MIN), Due.OUTSIDE);
    }
}
