import com.sun.management.ThreadMXBean;
import java.lang.management.ManagementFactory;

/** What a run makes: the constructor a few kilobytes, a call nothing at all. */
public final class RoomTest {
    private static final Checks CHECKS = new Checks("RoomTest");
    private static final ThreadMXBean BEAN = (ThreadMXBean) ManagementFactory.getThreadMXBean();
    private static final String PANES = "p0055 f1166 g2255 t3344 h4144 m0068 p5533";

    public static void main(String[] args) {
        run();
        long before = BEAN.getThreadAllocatedBytes(Thread.currentThread().getId());
        new PaneOrder();
        long made = BEAN.getThreadAllocatedBytes(Thread.currentThread().getId()) - before;
        CHECKS.holds("a new object has 20000 bytes at most, not " + made, made <= 20000);
        long calls = run();
        CHECKS.holds("512 calls make nothing, not " + calls + " bytes", calls <= 1000);
        CHECKS.end();
    }

    /** Some 500 calls, the dearest among them; answers what they made. */
    private static long run() {
        PaneOrder x = new PaneOrder();
        long before = BEAN.getThreadAllocatedBytes(Thread.currentThread().getId());
        x.text(0, PANES.length());
        for (int i = 0; i < PANES.length(); i++) {
            x.put(0, i, PANES.charAt(i));
        }
        x.row(0, 40);
        for (int i = 0; i < 20; i++) {
            x.lay(0, 2 * i, 90 + i % 5);
            x.lay(0, 2 * i + 1, -1);
        }
        x.screen(0);
        for (int k = 0; k < 19; k++) {
            int i = k % 7;
            x.order(1);
            x.shift(i);
            x.free(i);
            x.kinds(i, 0);
            x.places(i, 0);
            x.test(i, 0);
            x.duel(i, 4);
            x.odds(i, 5);
            x.mid(i, 5);
            x.lots(20, 1 + k);
            x.keep(k % 3);
            x.on(k % 3);
            x.buried();
            x.fault(0);
            x.copy(0, 0, 0, 1, 39);
            x.copy(0, 1, 0, 0, 39);
            x.undo(0);
            x.digest();
        }
        return BEAN.getThreadAllocatedBytes(Thread.currentThread().getId()) - before;
    }
}
