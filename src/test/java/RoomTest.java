import java.lang.management.ManagementFactory;

/**
 * What the dearest runs make must stay far below the room that all calls share: rows are made once and used again.
 * Bytes are measured, as the machine tells no elements; an element is four of them or more in most rows.
 */
public final class RoomTest {
    private static final Due due = new Due("RoomTest");
    private static final com.sun.management.ThreadMXBean THREADS =
        (com.sun.management.ThreadMXBean) ManagementFactory.getThreadMXBean();

    public static void main(String[] args) {
        long start = made();
        QuotedLetters q = new QuotedLetters();
        due.holds("a new object is small", made() - start < 100_000);
        start = made();
        dearRun(q);
        due.holds("512 dear calls make little", made() - start < 600_000);
        due.end();
    }

    private static long made() {
        return THREADS.getThreadAllocatedBytes(Thread.currentThread().getId());
    }

    private static void dearRun(QuotedLetters q) {
        int calls = 0;
        for (int x = 0; x < 4; x++) {
            q.letter(x, -1, -1);
            for (int l = 0; l < 14; l++) {
                q.word(l == 0 ? 63 : 14 * x + l);
                q.line(x, 1);
            }
            calls += 29;
        }
        for (int x = 4; x < 40; x++, calls++) {
            q.answer(x - 4, 1, -1);
        }
        int total = 0;
        for (int round = 0; calls + 6 <= 512; round++, calls += 6) {
            q.take(39 - round % 30);
            total += q.lost(0, 2) + q.still(39 - round % 30) + q.count(4) + q.count(5);
            q.put(39 - round % 30);
        }
        due.holds("the run came to its rows", total > 0);
    }
}
