import com.sun.management.ThreadMXBean;
import java.lang.management.ManagementFactory;

/** All calls of a run live in one room: an object is small, and calls on it make next to nothing. */
public final class RoomTest {
    private static final int CALLS = 500;
    private static final long MOST_BYTES_OF_OBJECT = 40_000;
    private static final long MOST_BYTES_OF_CALLS = 20_000;

    private RoomTest() {
    }

    public static void main(String[] args) {
        // the first round loads classes and makes what the machine itself keeps
        live(Check.county("c"));
        long start = allocated();
        CountRule x = new CountRule();
        long made = allocated() - start;
        Check.tell(x, 0, "ca9s1n1;ca8s1n1;ca7s1n1;ca6s1n1;ca5s1n2;ca4s1n2;ca3s1n2;ca2s1n2;e;ef1;ef2;ef9");
        Check.tell(x, 1, "y:!(c>20&a<90)?c/2+k*n;y:m");
        start = allocated();
        live(x);
        long lived = allocated() - start;
        System.out.println(made + " bytes for an object, " + lived + " for " + CALLS + " dear calls");
        Check.due("the object is small", made <= MOST_BYTES_OF_OBJECT, true);
        Check.due("calls make nothing", lived <= MOST_BYTES_OF_CALLS, true);
        Check.close();
    }

    private static void live(CountRule x) {
        x.law(0);
        for (int i = 0; i < CALLS / 10; i++) {
            x.plan(i % 8, 24, 0);
            x.rests(1, 2, -1);
            x.keepers(i % 8, 0, 12);
            x.richest(24, 1);
            x.months(60);
            x.fevers(60, i);
            x.undo();
            x.image();
            x.back();
            x.fault(1);
        }
    }

    private static long allocated() {
        ThreadMXBean threads = (ThreadMXBean) ManagementFactory.getThreadMXBean();
        return threads.getThreadAllocatedBytes(Thread.currentThread().getId());
    }
}
