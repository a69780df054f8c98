import com.sun.management.ThreadMXBean;
import java.lang.management.ManagementFactory;

/** How much an object makes in its 512 calls: all calls of a run live in one room. */
public final class RoomTest {
    /** Some twice what the dearest run takes now, and far below a room of 7.3 million fields and elements. */
    private static final long MOST_BYTES = 40_000;
    private static final int CALLS = 512;
    private static final ThreadMXBean BEAN = (ThreadMXBean) ManagementFactory.getThreadMXBean();

    /** Call n of a run, which makes nothing of its own. */
    private interface Run {
        void call(DummyInches x, int n);
    }

    public static void main(String[] args) {
        Due due = new Due();
        String street = "w2;v0;k0;r0;g0;s0;";
        takesLittle(due, "streets", (x, n) -> {
            int at = n % (street.length() + 1);
            if (at < street.length()) {
                x.feed(street.charAt(at));
            } else {
                x.street();
            }
        });
        takesLittle(due, "rows", (x, n) -> x.row(n % 8, 2, 40));
        takesLittle(due, "texts with a fault", (x, n) -> x.street());
        afterAStreet(due, "acts", (x, n) -> {
            if (n % 16 == 15) {
                x.close();
            } else {
                x.tell(n % 5, n % 3, n % 3, n % 7 - 3);
            }
        });
        afterAStreet(due, "acts undone", (x, n) -> {
            if (n % 2 == 0) {
                x.swap(0, 2);
            } else {
                x.undo();
            }
        });
        afterAStreet(due, "images", (x, n) -> {
            if (n % 3 == 2) {
                x.restore(n % 2);
            } else {
                x.image(n % 2);
            }
        });
        afterAStreet(due, "what is foretold", RoomTest::foretold);
        afterAStreet(due, "asks", (x, n) -> x.ask(n % 5, n / 5 % 2));
        due.end();
    }

    private static void foretold(DummyInches x, int n) {
        switch (n % 12) {
            case 0: x.was(0, 0, 0); break;
            case 1: x.liars(0, 0, 0, 1); break;
            case 2: x.blame(0, 1, 0, 0, 0); break;
            case 3: x.right(0, 0); break;
            case 4: x.most(0, 0, 0); break;
            case 5: x.swaps(0, 0, 1); break;
            case 6: x.lent(0, 1); break;
            case 7: x.parted(0, 1, 5, 0); break;
            case 8: x.addedUp(0, 200, 1); break;
            case 9: x.felt(0, 100, 0); break;
            case 10: x.twins(-1); break;
            default: x.row(0, 1, 40); break;
        }
    }

    private static void afterAStreet(Due due, String what, Run run) {
        int length = Made.ALL.length();
        takesLittle(due, what, (x, n) -> {
            if (n < length) {
                x.feed(Made.ALL.charAt(n));
            } else if (n == length) {
                x.street();
            } else {
                run.call(x, n);
            }
        });
    }

    /** The first time the machine loads what it needs, which is no part of the run. */
    private static void takesLittle(Due due, String what, Run run) {
        bytesOf(run);
        long bytes = bytesOf(run);
        due.isTrue(what + " take " + bytes + " bytes", bytes > 0 && bytes < MOST_BYTES);
    }

    private static long bytesOf(Run run) {
        long thread = Thread.currentThread().getId();
        long before = BEAN.getThreadAllocatedBytes(thread);
        DummyInches x = new DummyInches();
        for (int n = 0; n < CALLS; n++) {
            run.call(x, n);
        }
        return BEAN.getThreadAllocatedBytes(thread) - before;
    }
}
