/** Counts the answers that are not as due, and makes letters with fewer words than the calls need. */
final class Due {
    static final int NONE = -1, UNKNOWN = -1001, OUTSIDE = -1002, NOT = -1003, FULL = -1004, LARGE = -1005;
    static final int MIN = Integer.MIN_VALUE, MAX = Integer.MAX_VALUE;
    private final String test;
    private String sentence = "";
    private int wrong;

    Due(String test) {
        this.test = test;
    }

    /** The words of the document that the answers behind this hold to. */
    void sentence(String words) {
        sentence = " [" + words + "]";
    }

    void is(String call, int got, int want) {
        if (got != want) {
            wrong++;
            System.out.println(test + sentence + ": " + call + " answered " + got + ", due is " + want);
        }
    }

    void holds(String what, boolean holds) {
        is(what, holds ? 1 : 0, 1);
    }

    void end() {
        System.out.println(test + ": " + (wrong == 0 ? "all answers are as due" : wrong + " answers are not as due"));
        if (wrong != 0) {
            System.exit(1);
        }
    }

    static int tell(Counted q, int x, int depth, int... words) {
        for (int w : words) {
            q.word(w);
        }
        return q.line(x, depth);
    }

    /** A letter of no day that names none, with a line of one word for each of these. */
    static int letterOf(Counted q, int depth, int... words) {
        int x = q.letter(0, NONE, NONE);
        for (int w : words) {
            tell(q, x, depth, w);
        }
        return x;
    }

    /** By eights, as calls are dear; the last answer. */
    static int feed(Counted q, String text) {
        int answer = 0;
        for (int at = 0; at < text.length(); at += 8) {
            int n = Math.min(8, text.length() - at);
            long bytes = 0;
            for (int k = at; k < at + n; k++) {
                bytes = bytes << 8 | text.charAt(k);
            }
            answer = q.feed(n, bytes);
        }
        return answer;
    }

    static int rules(Counted q, String text) {
        feed(q, text);
        return q.read();
    }
}
