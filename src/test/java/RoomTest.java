import java.lang.management.ManagementFactory;

/** All calls of a run share one room: an object is small, and its calls make nothing. */
public final class RoomTest {
    // Some 2,200 elements of at most 8 bytes and the heads of under 100 objects.
    private static final long MOST_BYTES_OF_AN_OBJECT = 32_000;
    // Not 0: the machine itself may make a little on this thread now and then.
    private static final long MOST_BYTES_OF_ALL_CALLS = 100_000;
    private static final int ROUNDS = 200;

    private RoomTest() {
    }

    public static void main(String[] args) {
        if (!(ManagementFactory.getThreadMXBean() instanceof com.sun.management.ThreadMXBean bean)
            || !bean.isThreadAllocatedMemorySupported()) {
            System.out.println("this machine does not count what is made: nothing was measured");
            return;
        }
        SquareGrounds x = new SquareGrounds();
        SquareGrounds y = new SquareGrounds();
        callAll(x);
        callAll(y);
        long start = bean.getCurrentThreadAllocatedBytes();
        SquareGrounds z = new SquareGrounds();
        long made = bean.getCurrentThreadAllocatedBytes();
        for (int round = 0; round < ROUNDS; round++) {
            callAll(x);
            callAll(y);
        }
        long called = bean.getCurrentThreadAllocatedBytes();
        boolean small = z.count(1) == 0 && made - start <= MOST_BYTES_OF_AN_OBJECT;
        boolean still = called - made <= MOST_BYTES_OF_ALL_CALLS;
        System.out.println("an object: " + (made - start) + " bytes; all calls: " + (called - made) + " bytes");
        if (!small || !still) {
            System.out.println("that is more than is due");
            System.exit(1);
        }
    }

    private static void write(SquareGrounds x, int s, int n, int step) {
        x.sheet(s, n);
        for (int i = 0; i < n; i++) {
            x.lay(s, i, (i + step) % n);
        }
    }

    private static void callAll(SquareGrounds x) {
        write(x, 0, 8, 1);
        write(x, 1, 8, 0);
        x.lay(1, 0, 2);
        x.lay(1, 2, 0);
        x.ground(0, 0, 1);
        x.copy(0, 0, 3, 0, 8);
        x.sheet(2, -1);
        x.tear(3);
        x.twin(0, 1);
        x.shear(1, 77);
        x.turn(1);
        x.see(1, -50, 49);
        for (int what = 0; what < 6; what++) {
            x.told(0, what);
            x.mark(0, what);
            x.reached(1, what, what);
            x.cylinder(0, what, what);
            x.name(0, what);
            x.bend(0, what);
            x.next(0, what, true);
            x.width(0, what);
            x.count(what);
            x.findings(what);
        }
        x.alike(0, 1);
        x.mean(0);
        x.cylinders(0, 7, 5);
        x.share(0);
        x.reach(0);
        x.cusps(1);
        x.meanShare(0);
        x.twist(1);
        x.comes(0, 1);
        x.finding();
        x.digest();
        x.drop(1);
        x.drop(1);
    }
}
