import com.sun.management.ThreadMXBean;
import java.lang.management.ManagementFactory;

/** All calls of a run live in one room: what they make is counted in bytes. */
public final class RoomTest {
    private static final int CALLS = 512;
    private static final Due DUE = new Due();
    private static final ThreadMXBean THREADS = (ThreadMXBean) ManagementFactory.getThreadMXBean();
    private static final long SELF = Thread.currentThread().getId();

    public static void main(String[] args) {
        DUE.promise("the room");
        for (int i = 0; i < 3; i++) {
            newObjects();
            texts();
            calls();
        }
        DUE.end();
    }

    private static long made() {
        return THREADS.getThreadAllocatedBytes(SELF);
    }

    private static void newObjects() {
        long before = made();
        HeronTalk x = null;
        for (int i = 0; i < CALLS; i++) {
            x = new HeronTalk();
        }
        long each = (made() - before) / CALLS;
        DUE.is("a new object takes " + each + " bytes, at most 12000", x != null && each <= 12000);
    }

    private static void texts() {
        HeronTalk x = new HeronTalk();
        x.keep();
        StringBuilder long96 = new StringBuilder("price w");
        while (long96.length() < 95) {
            long96.append("+k");
        }
        byte[] bytes = long96.toString().getBytes();
        long before = made();
        for (int i = 0; i < CALLS; i++) {
            Due.tape(x, bytes);
            x.text();
            if (i % 14 == 13) {
                x.back();
            }
        }
        long each = (made() - before) / CALLS;
        DUE.is("text() takes " + each + " bytes, at most 2000", each <= 2000);
    }

    /** A town as full as can be, and its dearest calls. */
    private static void calls() {
        HeronTalk x = Due.town(16, 8);
        Due.text(x, "price w*(1+n)+k");
        x.seed(9);
        x.deal();
        for (int i = 0; i < 8; i++) {
            x.talk(i % 6, i, (i + 1) % 8);
        }
        for (int i = 0; i < 4; i++) {
            x.sheet(i, i % 2, 24);
        }
        x.keep();
        long before = made();
        for (int i = 0; i < CALLS / 8; i++) {
            x.fewest(i % 8, i % 16, 3, -1);
            x.check(30);
            x.lay(i % 5, 2, i % 4);
            x.copy(0, 0, 2, 0, 24);
            x.market();
            x.keepsBack(i % 8);
            x.back();
            x.keep();
        }
        long all = made() - before;
        DUE.is("the dearest calls take " + all + " bytes, at most 50000", all <= 50000);
    }
}
