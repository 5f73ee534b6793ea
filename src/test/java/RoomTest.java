import com.sun.management.ThreadMXBean;
import java.lang.management.ManagementFactory;

/** What an object takes is taken by its constructor; no call takes more, whatever it works out. */
public final class RoomTest {
    private static final ThreadMXBean THREADS = (ThreadMXBean) ManagementFactory.getThreadMXBean();
    /** A constructor's share of 7.3 million elements, at 8 bytes the element, if 100 objects are made. */
    private static final long BYTES_OF_AN_OBJECT = 584_000;
    /** Room for what the machine itself puts aside when it loads and measures. */
    private static final long BYTES_OF_THE_MACHINE = 20_000;

    public static void main(String[] args) {
        Check check = new Check();
        useAll(new LearnedReasons());
        long before = taken();
        LearnedReasons x = new LearnedReasons();
        long made = taken();
        useAll(x);
        long used = taken();
        check.that("an object takes " + (made - before), made - before < BYTES_OF_AN_OBJECT);
        check.that("its calls take " + (used - made), used - made < BYTES_OF_THE_MACHINE);
        check.end();
    }

    private static long taken() {
        return THREADS.getThreadAllocatedBytes(Thread.currentThread().getId());
    }

    /** 14 NAMES and two ROWS against one another, with a change and all questions again and again. */
    private static void useAll(LearnedReasons x) {
        for (int n = 0; n < 14; n++) x.name();
        x.row(6);
        x.row(-7);
        for (int n = 0; n < 14; n++) {
            x.weight(0, n, 1);
            x.weight(1, n, -1);
        }
        for (int i = 0; i < 30; i++) {
            x.weight(0, 0, i % 3);
            x.cost(i % 14, i);
            x.literal(i % 28);
            x.lemma();
            x.assume(i % 28);
            x.known(0);
            x.conflict();
            x.search();
            x.learned(i, 0);
            x.count();
            x.best();
            x.core(0);
        }
    }
}
