import java.lang.reflect.InvocationTargetException;
import java.lang.reflect.Method;
import java.lang.reflect.Modifier;
import java.util.function.Supplier;

/** Objects that are full, and numbers at and behind every bound: each call answers, none throws. */
public final class LimitsTest {
    private static final Due due = new Due("LimitsTest");
    private static final int[] NUMBERS = {Due.MIN, -1002, -2, -1, 0, 1, 2, 5, 6, 7, 8, 9, 10, 13, 14, 39, 40, 41, 63, 64,
        9999, 10000, Due.MAX};

    public static void main(String[] args) throws ReflectiveOperationException {
        fullHeap();
        deepestQuote();
        fullText();
        sweep("empty", Counted::new);
        sweep("full", LimitsTest::full);
        due.end();
    }

    /** 40 letters of 14 lines of 8 words; all but the first quote the first. */
    private static Counted full() {
        Counted q = new Counted();
        q.letter(0, 5, Due.NONE);
        for (int l = 0; l < 14; l++) {
            Due.tell(q, 0, 0, 1 + l, 2 + l, 3 + l, 4 + l, 5 + l, 6 + l, 7 + l, 50 + l);
        }
        for (int x = 1; x < 40; x++) {
            q.answer(0, x % 10, Due.NONE);
        }
        return q;
    }

    private static void fullHeap() {
        Counted q = full();
        due.is("lines of the last", q.about(39, 3), 14);
        due.is("parent of the last", q.about(39, 6), 0);
        due.is("fit of it", q.about(39, 11), 14);
        due.is("thread", q.about(39, 10), 40);
        due.is("children", q.about(0, 9), 39);
        due.is("origin of the last line", q.origin(39, 13, 1), 13);
        due.is("echoes", q.echoes(0, 13), 40);
        due.is("altered", q.count(4), 0);
        due.is("unfound", q.count(5), 0);
        due.is("groups", q.count(6), 0);
        due.is("quarrels", q.count(7), 0);
        due.is("roots", q.count(3), 1);
        due.is("order(39)", q.order(39), 39);
        due.is("order(40)", q.order(40), Due.NONE);
        due.is("span", q.span(39, 0), 5);
        due.is("span", q.span(39, 1), 9999);
        q.sign(63);
        due.is("seek", q.seek(Due.NONE, 0, Due.NONE), 40);
        due.is("seek the last", q.seek(Due.NONE, 0, 39), 14 * 39 + 13);
        q.take(0);
        due.is("still", q.still(0), (1 << 14) - 1);
        due.is("a group of 39", q.lost(0, 0), 39);
        due.is("too many", q.lost(0, 2), Due.LARGE);
        q.known(5);
        due.is("row of four", q.lost(0, 2), 14);
        due.is("its last word", q.lostWord(0, 13, 7), 63);
        due.is("unfound", q.count(5), 56);
        q.known(40);
        q.put(0);
        Due.rules(q, "trust no;near 2;");
        due.is("by fit", q.about(39, 6), 0);
        due.is("fit", q.fit(39, 0), 14);
    }

    private static void deepestQuote() {
        Counted q = new Counted();
        q.letter(4, Due.NONE, Due.NONE);
        Due.tell(q, 0, 0, 9);
        for (int x = 0; x < 6; x++) {
            q.answer(x, 0, Due.NONE);
        }
        due.is("depth 5", q.told(5, 0, 0), 5);
        due.is("its origin", q.origin(5, 0, 0), 0);
        due.is("its writer", q.origin(5, 0, 2), 4);
        due.is("echoes", q.echoes(0, 0), 6);
        due.is("depth 6 there is not", q.about(6, 3), 0);
    }

    private static void fullText() {
        Counted q = new Counted();
        due.is("letters alone", Due.rules(q, "a".repeat(120)), -11);
        due.is("at", q.fault(), 0);
        due.is("figures alone", Due.rules(q, "fit " + "1".repeat(116)), -12);
        due.is("at", q.fault(), 4);
        due.is("blanks behind", Due.rules(q, "fit 7" + " ".repeat(115)), -11);
        due.is("at the end", q.fault(), 120);
        due.is("the last byte ends it", Due.rules(q, "fit 7" + " ".repeat(114) + ";"), 1);
        due.is("fit", q.rule(1), 7);
        due.is("a byte too much is not taken", Due.rules(q, " ".repeat(115) + "deep 4;"), -11);
        due.is("at the end", q.fault(), 120);
    }

    /** Arguments at all bounds, in all pairs with one another. */
    private static void sweep(String name, Supplier<Counted> made) throws ReflectiveOperationException {
        Counted q = made.get();
        for (Method call : QuotedLetters.class.getDeclaredMethods()) {
            if (!Modifier.isPublic(call.getModifiers())) {
                continue;
            }
            Method method = Counted.class.getDeclaredMethod(call.getName(), call.getParameterTypes());
            int combinations = 1;
            for (int p = 0; p < method.getParameterCount(); p++) {
                combinations *= NUMBERS.length;
            }
            for (int c = 0; c < combinations; c += combinations > 100_000 ? 7 : 1) {
                if (q.calls() == Counted.MOST_CALLS) {
                    q = made.get();
                }
                callWith(name, q, method, c);
            }
        }
    }

    private static void callWith(String name, Counted q, Method method, int combination)
            throws IllegalAccessException {
        Class<?>[] types = method.getParameterTypes();
        Object[] arguments = new Object[types.length];
        int rest = combination;
        for (int p = 0; p < types.length; p++) {
            int number = NUMBERS[rest % NUMBERS.length];
            rest /= NUMBERS.length;
            if (types[p] == long.class) {
                arguments[p] = (long) number;
            } else {
                arguments[p] = number;
            }
        }
        try {
            int answer = (Integer) method.invoke(q, arguments);
            due.holds(name + ": " + method.getName() + " " + answer, answer >= Due.LARGE);
        } catch (InvocationTargetException thrown) {
            due.holds(name + ": " + method.getName() + " threw " + thrown.getCause(), false);
        }
    }
}
