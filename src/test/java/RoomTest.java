import com.sun.management.ThreadMXBean;
import java.lang.management.ManagementFactory;

/**
 * All calls of one run live in one room: what an object makes, it makes once, and uses again. It is called more than 512
 * times here, as what it answers is not looked at.
 */
public final class RoomTest {
    private static final ThreadMXBean THREADS = (ThreadMXBean) ManagementFactory.getThreadMXBean();
    private static final String TEXT = "s60,3;p0,3;".repeat(6);

    private static long made() {
        return THREADS.getThreadAllocatedBytes(Thread.currentThread().getId());
    }

    private static void dearCalls(SlewRails x) {
        for (int p = 0; p < 12; p++) {
            x.lay(p, 2);
        }
        x.gang(0, 12);
        x.image(0);
        x.image(1);
        x.row(0, 2, 40);
        x.row(1, 2, 40);
        x.tell(0, 0, 0);
        x.fits(3, 0, 12, 1);
        x.copy(0, 0, 1, 0, 40);
        x.best(0);
        x.wrong(0);
        x.chance(50, 3, 0);
        x.drawn(60, 7, 0);
        x.moment(3);
        x.ask(0, 0);
        x.work();
        x.best(11);
        x.restore(0);
        x.drop(0);
    }

    private static void feedText(SlewRails x) {
        for (int i = 0; i < TEXT.length(); i++) {
            x.feed(TEXT.charAt(i));
        }
        x.rail();
    }

    public static void main(String[] args) {
        Due due = new Due("RoomTest");
        feedText(new SlewRails());
        made();
        long start = made();
        SlewRails x = new SlewRails();
        long whenNew = made();
        feedText(x);
        dearCalls(x);
        dearCalls(x);
        long whenUsed = made();
        for (int k = 0; k < 10; k++) {
            feedText(x);
            dearCalls(x);
        }
        long last = made();
        System.out.println("RoomTest: bytes of a new object " + (whenNew - start) + ", by its first calls "
            + (whenUsed - whenNew) + ", by all later ones " + (last - whenUsed));
        due.holds("a new object is small", whenNew - start < 8000);
        due.holds("the first calls make what is used again", whenUsed - whenNew < 40000);
        due.holds("later calls make nothing", last - whenUsed < 1000);
        due.end();
    }
}
