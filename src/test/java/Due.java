/** Counts the answers that are not as due, and makes letters with fewer words than the calls need. */
final class Due {
    static final int NONE = -1, UNKNOWN = -1001, OUTSIDE = -1002, NOT = -1003, FULL = -1004, LARGE = -1005;
    static final int MIN = Integer.MIN_VALUE, MAX = Integer.MAX_VALUE;
    private final String test;
    private int wrong;

    Due(String test) {
        this.test = test;
    }

    void is(String call, int got, int want) {
        if (got != want) {
            wrong++;
            System.out.println(test + ": " + call + " answered " + got + ", due is " + want);
        }
    }

    void holds(String what, boolean holds) {
        is(what, holds ? 1 : 0, 1);
    }

    void end() {
        System.out.println(test + ": " + (wrong == 0 ? "all answers are as due" : wrong + " answers are not as due"));
        if (wrong != 0) {
            System.exit(1);
        }
    }

    static int tell(QuotedLetters q, int x, int depth, int... words) {
        for (int w : words) {
            q.word(w);
        }
        return q.line(x, depth);
    }

    static void feed(QuotedLetters q, String text) {
        for (int k = 0; k < text.length(); k++) {
            q.feed(1, text.charAt(k));
        }
    }

    static int rules(QuotedLetters q, String text) {
        feed(q, text);
        return q.read();
    }

    /** A line of many words, to tell objects that should be the same from such as are not. */
    static String stateOf(QuotedLetters q) {
        StringBuilder state = new StringBuilder();
        for (int what = 0; what <= 10; what++) {
            state.append(q.count(what)).append(' ');
        }
        for (int what = 0; what <= 4; what++) {
            state.append(q.rule(what)).append(' ');
        }
        state.append(q.fault()).append(' ').append(q.seek(NONE, 0, NONE)).append('\n');
        for (int x = 0; x < q.count(0); x++) {
            for (int what = 0; what <= 11; what++) {
                state.append(q.about(x, what)).append(' ');
            }
            for (int line = 0; line < q.about(x, 3); line++) {
                for (int what = 0; what <= 9; what++) {
                    state.append(q.told(x, line, what)).append(' ');
                }
                state.append(q.origin(x, line, 0)).append(q.altered(x, line)).append('\n');
            }
        }
        return state.toString();
    }
}
