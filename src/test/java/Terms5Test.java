/** Terms, part 5: the text of the RULES, its clauses, NUMBERS, blanks and FAULTS; AN ANSWER. */
public final class Terms5Test {
    private static final Due due = new Due("Terms5Test");
    private static final int NONE = Due.NONE;
    private static final String[] KINDS = {"near", "fit", "trust", "keep", "deep"};
    private static final int[] FIRST = {0, 50, 1, 14, 5};
    private static final int[] GREATEST = {2, 100, 1, 14, 5};

    public static void main(String[] args) {
        bytesAtMost();
        fullTexts();
        everyClause();
        yesAndNo();
        asAtFirst();
        whatATextDoesNotTell();
        boundsOfNumbers();
        figuresOfNumbers();
        wordsOfLettersAlone();
        wordsSideBySide();
        blanksAnywhere();
        blanksWithinWords();
        onlyThirtyTwoIsBlank();
        cannotStandThere();
        cannotStandAtTheEnd();
        badNumbers();
        toldAlready();
        firstByteWithAFault();
        leastOfTheFaults();
        answerDeep();
        answerKeep();
        answerKeepBehindDeep();
        answerNames();
        due.end();
    }

    private static void good(String text, int clauses, int... rules) {
        Counted q = new Counted();
        due.is("'" + text + "'", Due.rules(q, text), clauses);
        due.is("'" + text + "': fault", q.fault(), NONE);
        for (int what = 0; what < 5; what++) {
            due.is("'" + text + "': " + KINDS[what], q.rule(what), rules[what]);
        }
    }

    private static void bad(String text, int kind, int at) {
        Counted q = new Counted();
        due.is("'" + text + "'", Due.rules(q, text), -10 - kind);
        due.is("'" + text + "': fault", q.fault(), at);
        for (int what = 0; what < 5; what++) {
            due.is("'" + text + "': " + KINDS[what], q.rule(what), FIRST[what]);
        }
    }

    private static void bytesAtMost() {
        due.sentence("RULES are a text (120 bytes at most)");
        for (int n = 1; n <= 8; n++) {
            Counted q = new Counted();
            int fed = 0;
            while (fed + n <= 120) {
                fed += n;
                due.is("by " + n, q.feed(n, 0x2020202020202020L), fed);
            }
            due.is("by " + n + ": too many", q.feed(n, 0x2020202020202020L), Due.FULL);
            due.is("by " + n + ": bytes", q.count(9), fed);
            due.is("the rest", fed == 120 ? 120 : q.feed(120 - fed, 0x2020202020202020L), 120);
            due.is("one more", q.feed(1, 32), Due.FULL);
            due.is("blanks alone", q.read(), 0);
        }
    }

    private static void fullTexts() {
        due.sentence("(120 bytes at most)");
        String blanks = " ".repeat(113);
        good(blanks + "near 2;", 1, 2, 50, 1, 14, 5);
        good("near 2;" + blanks, 1, 2, 50, 1, 14, 5);
        good("near" + blanks + " 2;", 1, 2, 50, 1, 14, 5);
        bad(blanks + " near 2", 1, 120);
        bad(blanks + "near 3;", 2, 118);
        bad(blanks + "near 2x", 1, 119);
        bad("f".repeat(120), 1, 0);
        bad(" ".repeat(119) + "f", 1, 119);
        bad("fit " + "0".repeat(116), 2, 4);
    }

    private static void everyClause() {
        due.sentence("clause = 'near' N ';'   'fit' N ';'   'trust' yes ';'   'keep' N ';'   'deep' N ';'");
        good("", 0, FIRST);
        good("near 1;", 1, 1, 50, 1, 14, 5);
        good("fit 1;", 1, 0, 1, 1, 14, 5);
        good("trust no;", 1, 0, 50, 0, 14, 5);
        good("keep 1;", 1, 0, 50, 1, 1, 5);
        good("deep 1;", 1, 0, 50, 1, 14, 1);
        good("deep 1;keep 2;trust no;fit 3;near 2;", 5, 2, 3, 0, 2, 1);
        bad(";", 1, 0);
        bad("near 1;;", 1, 7);
        bad("near 1", 1, 6);
        bad("near 1 fit 2;", 1, 7);
        bad("near 1, fit 2;", 1, 6);
    }

    private static void yesAndNo() {
        due.sentence("yes = 'yes' | 'no'");
        good("trust yes;", 1, FIRST);
        good("trust no;", 1, 0, 50, 0, 14, 5);
        for (String word : new String[] {"ye", "yess", "n", "noo", "not", "on", "trust", "near"}) {
            bad("trust " + word + ";", 1, 6);
        }
        bad("trust 1;", 1, 6);
        bad("trust 0;", 1, 6);
        bad("trust;", 1, 5);
        bad("near yes;", 1, 5);
        bad("yes;", 1, 0);
        bad("no;", 1, 0);
    }

    private static void asAtFirst() {
        due.sentence("At first .. near 0, fit 50, trust yes, keep 14, deep 5");
        Counted q = new Counted();
        for (int what = 0; what < 5; what++) {
            due.is(KINDS[what], q.rule(what), FIRST[what]);
        }
    }

    private static void whatATextDoesNotTell() {
        due.sentence("At first, and what a text does not tell");
        String[] clauses = {"near 1;", "fit 10;", "trust no;", "keep 3;", "deep 2;"};
        int[] told = {1, 10, 0, 3, 2};
        Counted q = new Counted();
        for (int kind = 0; kind < 5; kind++) {
            due.is("all", Due.rules(q, String.join("", clauses)), 5);
            due.is("one alone", Due.rules(q, clauses[kind]), 1);
            for (int what = 0; what < 5; what++) {
                due.is(clauses[kind] + " then " + KINDS[what], q.rule(what), what == kind ? told[what] : FIRST[what]);
            }
        }
        Due.rules(q, String.join("", clauses));
        due.is("an empty text", q.read(), 0);
        for (int what = 0; what < 5; what++) {
            due.is("an empty text, then " + KINDS[what], q.rule(what), FIRST[what]);
        }
    }

    private static void boundsOfNumbers() {
        due.sentence("Bounds: near 0 .. 2, fit 0 .. 100, keep 0 .. 14, deep 0 .. 5");
        for (int kind : new int[] {0, 1, 3, 4}) {
            int at = KINDS[kind].length() + 1;
            for (int number = 0; number <= 999; number++) {
                boolean isWithin = number <= GREATEST[kind];
                String text = KINDS[kind] + " " + number + ";";
                Counted q = new Counted();
                due.is(text, Due.rules(q, text), isWithin ? 1 : -12);
                due.is(text + " fault", q.fault(), isWithin ? NONE : at);
                due.is(text + " rule", q.rule(kind), isWithin ? number : FIRST[kind]);
            }
        }
        bad("near -1;", 1, 5);
        bad("fit +1;", 1, 4);
    }

    private static void figuresOfNumbers() {
        due.sentence("NUMBERS have one to three figures");
        good("near 2;", 1, 2, 50, 1, 14, 5);
        good("near 02;", 1, 2, 50, 1, 14, 5);
        good("near 002;", 1, 2, 50, 1, 14, 5);
        bad("near 0002;", 2, 5);
        good("fit 000;", 1, 0, 0, 1, 14, 5);
        bad("fit 0000;", 2, 4);
        bad("fit 1000;", 2, 4);
        bad("fit 0100;", 2, 4);
        bad("fit 4294967296;", 2, 4);
        bad("fit 18446744073709551616;", 2, 4);
        bad("fit ;", 1, 4);
        bad("fit x;", 1, 4);
    }

    private static void wordsOfLettersAlone() {
        due.sentence("words are letters a .. z side by side");
        bad("NEAR 1;", 1, 0);
        bad("neaR 1;", 1, 0);
        bad("`near 1;", 1, 0);
        bad("near{ 1;", 1, 4);
        bad("near_1;", 1, 4);
        bad("near1near;", 1, 5);
        bad("neara 1;", 1, 0);
        bad("nearz 1;", 1, 0);
        bad("anear 1;", 1, 0);
        bad("znear 1;", 1, 0);
        bad("nea 1;", 1, 0);
        bad("n", 1, 0);
        bad("nea" + (char) ('r' + 128) + " 1;", 1, 0);
    }

    private static void wordsSideBySide() {
        due.sentence("two words side by side need one");
        bad("trustyes;", 1, 0);
        bad("trustno;", 1, 0);
        good("trust yes;", 1, FIRST);
        good("near1;", 1, 1, 50, 1, 14, 5);
        good("near1;fit2;trust no;keep3;deep4;", 5, 1, 2, 0, 3, 4);
    }

    private static void blanksAnywhere() {
        due.sentence("blanks (32) may stand anywhere but within words and NUMBERS");
        good(" near 1;", 1, 1, 50, 1, 14, 5);
        good("near  1;", 1, 1, 50, 1, 14, 5);
        good("near 1 ;", 1, 1, 50, 1, 14, 5);
        good("near 1; ", 1, 1, 50, 1, 14, 5);
        good("   near   1   ;   trust   no   ;   ", 2, 1, 50, 0, 14, 5);
        good(" ", 0, FIRST);
    }

    private static void blanksWithinWords() {
        due.sentence("anywhere but within words and NUMBERS");
        bad("ne ar 1;", 1, 0);
        bad("near1 0;", 1, 6);
        bad("fit 1 0;", 1, 6);
        bad("fit 1 00;", 1, 6);
        bad("trust y es;", 1, 6);
        bad("trust n o;", 1, 6);
    }

    private static void onlyThirtyTwoIsBlank() {
        due.sentence("blanks (32)");
        for (int sign = 0; sign < 256; sign++) {
            if (sign == ' ') {
                continue;
            }
            String text = "near 1;" + (char) sign;
            bad(text, 1, 7);
            if (sign < '0' || sign > '9') {
                bad("near" + (char) sign + "1;", 1, sign >= 'a' && sign <= 'z' ? 0 : 4);
            }
        }
    }

    private static void cannotStandThere() {
        due.sentence("1 it cannot stand there (a word that cannot: at its first letter)");
        bad("x", 1, 0);
        bad("  other 1;", 1, 2);
        bad("near fit;", 1, 5);
        bad("near 1 other;", 1, 7);
        bad("near 1 near;", 1, 7);
        bad("trust yes no;", 1, 10);
        bad("trust yes 1;", 1, 10);
        bad("trust yes;no;", 1, 10);
        bad("1;", 1, 0);
        bad("near 1;1", 1, 7);
        bad("near;1", 1, 4);
    }

    private static void cannotStandAtTheEnd() {
        due.sentence("(the end at the text's length)");
        bad("near", 1, 4);
        bad("near ", 1, 5);
        bad("near 1", 1, 6);
        bad("near 1  ", 1, 8);
        bad("trust", 1, 5);
        bad("trust ", 1, 6);
        bad("trust no", 1, 8);
        bad("trust yes ", 1, 10);
        bad("near 1;fit", 1, 10);
        bad("nea", 1, 0);
        bad("trust ye", 1, 6);
    }

    private static void badNumbers() {
        due.sentence("2 a NUMBER of four figures or more, or out of its bounds (at its first)");
        bad("near 3;", 2, 5);
        bad("near   1234;", 2, 7);
        bad("near 1;fit 101;", 2, 11);
        bad("keep 15;", 2, 5);
        bad("deep 6;", 2, 5);
        bad("deep 6", 2, 5);
        bad("deep 0005", 2, 5);
        bad("deep 6x", 2, 5);
    }

    private static void toldAlready() {
        due.sentence("3 a clause of a kind that was told already (at its first letter)");
        String[] clauses = {"near 1;", "fit 10;", "trust no;", "keep 3;", "deep 2;"};
        for (String clause : clauses) {
            bad(clause + clause, 3, clause.length());
            bad(clause + "  " + clause, 3, clause.length() + 2);
            for (String other : clauses) {
                if (!other.equals(clause)) {
                    bad(clause + other + clause, 3, clause.length() + other.length());
                }
            }
        }
        bad("trust yes;trust no;", 3, 10);
        bad("near 0;near 0;", 3, 7);
    }

    private static void firstByteWithAFault() {
        due.sentence("FAULTS, at the first byte that has one");
        bad("near 3;x", 2, 5);
        bad("near 3;near 1;", 2, 5);
        bad("near 1;near 3;", 3, 7);
        bad("near 1;near x;", 3, 7);
        bad("near 1;near", 3, 7);
        bad("near 1;x near 1;", 1, 7);
        bad("fit 101", 2, 4);
        bad("fit 10 1", 1, 7);
    }

    private static void leastOfTheFaults() {
        due.sentence("of these the least");
        bad("near 1 1234;", 1, 7);
        bad("1234;", 1, 0);
        bad("trust 1234;", 1, 6);
        bad("near 1;fit near 1;", 1, 11);
        bad("near 1;fit 1 near 1;", 1, 13);
    }

    /** A letter with lines of depths 0 to 5, and again: their words are 1 to 12. */
    private static Counted twelveLines() {
        Counted q = new Counted();
        q.letter(0, NONE, NONE);
        for (int line = 0; line < 12; line++) {
            Due.tell(q, 0, line % 6, line + 1);
        }
        return q;
    }

    private static void answerDeep() {
        due.sentence("those that would be deeper than deep are left out");
        for (int deep = 0; deep <= 5; deep++) {
            Counted q = twelveLines();
            Due.rules(q, "deep " + deep + ";");
            int x = q.answer(0, 0, NONE);
            due.is("deep " + deep + ": lines", q.about(x, 3), 2 * deep);
            due.is("deep " + deep + ": quoted ones", q.about(x, 4), 2 * deep);
            for (int line = 0; line < 2 * deep; line++) {
                int from = line < deep ? line : 6 + line - deep;
                due.is("deep " + deep + ": depth of line " + line, q.told(x, line, 0), from % 6 + 1);
                due.is("deep " + deep + ": word of line " + line, q.told(x, line, 2), from + 1);
            }
        }
    }

    private static void answerKeep() {
        due.sentence("then only the last keep of them stay");
        for (int keep = 0; keep <= 14; keep++) {
            Counted q = new Counted();
            Due.letterOf(q, 0, 1, 2, 3, 4, 5, 6, 7, 8, 9, 10, 11, 12, 13, 14);
            Due.rules(q, "keep " + keep + ";");
            int x = q.answer(0, 0, NONE);
            due.is("keep " + keep + ": lines", q.about(x, 3), keep);
            for (int line = 0; line < keep; line++) {
                due.is("keep " + keep + ": word of line " + line, q.told(x, line, 2), 15 - keep + line);
            }
        }
    }

    private static void answerKeepBehindDeep() {
        due.sentence("those that would be deeper than deep are left out; then only the last keep of them stay");
        Counted q = twelveLines();
        Due.rules(q, "deep 2;keep 3;");
        q.answer(0, 0, NONE);
        int[] words = {2, 7, 8};
        due.is("lines", q.about(1, 3), 3);
        for (int line = 0; line < 3; line++) {
            due.is("word of line " + line, q.told(1, line, 2), words[line]);
        }
        Due.rules(q, "deep 2;keep 4;");
        due.is("as many as there are", q.about(q.answer(0, 0, NONE), 3), 4);
        Due.rules(q, "deep 2;keep 5;");
        due.is("more than there are", q.about(q.answer(0, 0, NONE), 3), 4);
    }

    private static void answerNames() {
        due.sentence("AN ANSWER to a LETTER NAMES it, and quotes its LINES, each by one DEPTH more");
        Counted q = new Counted();
        q.letter(0, NONE, NONE);
        due.is("to one without lines", q.about(q.answer(0, 3, 9), 3), 0);
        due.is("what it names", q.about(1, 2), 0);
        q.line(0, 0);
        Due.tell(q, 0, 4, 1, 2, 3, 4, 5, 6, 7, 63);
        q.answer(0, 3, 9);
        due.is("an empty text", q.told(2, 0, 1), 0);
        due.is("its depth", q.told(2, 0, 0), 1);
        due.is("eight words", q.told(2, 1, 1), 8);
        due.is("the last of them", q.told(2, 1, 9), 63);
        due.is("its depth", q.told(2, 1, 0), 5);
        due.is("the answer to the answer", q.about(q.answer(2, 0, NONE), 3), 1);
        due.is("the letter itself stays", q.told(0, 1, 0), 4);
        due.is("what the letter gets later the answer has not", q.line(0, 0) + q.about(2, 3), 2 + 2);
    }
}
