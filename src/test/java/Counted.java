/**
 * A QuotedLetters that counts its calls: the document promises nothing behind the 512th, so a test that asks for more
 * tells of itself that it is wrong.
 */
final class Counted {
    static final int MOST_CALLS = 512;
    private final QuotedLetters letters = new QuotedLetters();
    private int calls;

    int calls() {
        return calls;
    }

    private QuotedLetters next() {
        calls++;
        if (calls > MOST_CALLS) {
            throw new IllegalStateException("the test makes more than 512 calls on one object");
        }
        return letters;
    }

    int word(int w) {
        return next().word(w);
    }

    int letter(int writer, int day, int names) {
        return next().letter(writer, day, names);
    }

    int line(int x, int depth) {
        return next().line(x, depth);
    }

    int answer(int x, int writer, int day) {
        return next().answer(x, writer, day);
    }

    int take(int x) {
        return next().take(x);
    }

    int put(int x) {
        return next().put(x);
    }

    int known(int k) {
        return next().known(k);
    }

    int about(int x, int what) {
        return next().about(x, what);
    }

    int told(int x, int line, int what) {
        return next().told(x, line, what);
    }

    int differ(int x, int line, int y, int other) {
        return next().differ(x, line, y, other);
    }

    int fit(int x, int y) {
        return next().fit(x, y);
    }

    int count(int what) {
        return next().count(what);
    }

    int origin(int x, int line, int what) {
        return next().origin(x, line, what);
    }

    int altered(int x, int line) {
        return next().altered(x, line);
    }

    int echoes(int x, int line) {
        return next().echoes(x, line);
    }

    int group(int x) {
        return next().group(x);
    }

    int lost(int g, int what) {
        return next().lost(g, what);
    }

    int lostWord(int g, int i, int k) {
        return next().lostWord(g, i, k);
    }

    int order(int i) {
        return next().order(i);
    }

    int quarrel(int i) {
        return next().quarrel(i);
    }

    int span(int x, int what) {
        return next().span(x, what);
    }

    int sign(int w) {
        return next().sign(w);
    }

    int clear() {
        return next().clear();
    }

    int seek(int writer, int where, int i) {
        return next().seek(writer, where, i);
    }

    int still(int x) {
        return next().still(x);
    }

    int feed(int n, long bytes) {
        return next().feed(n, bytes);
    }

    int read() {
        return next().read();
    }

    int fault() {
        return next().fault();
    }

    int rule(int what) {
        return next().rule(what);
    }
}
