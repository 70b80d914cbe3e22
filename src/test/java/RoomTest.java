import com.sun.management.ThreadMXBean;
import java.lang.management.ManagementFactory;

/** All calls of a run live in one room: whatever is called, an object makes nothing new once it is made. */
public final class RoomTest {
    private static final long OF_ONE_OBJECT = 64 * 1024;
    private static final long OF_ALL_CALLS = 4 * 1024;

    private static final ThreadMXBean BEAN = (ThreadMXBean) ManagementFactory.getThreadMXBean();

    public static void main(String[] args) {
        runOnce(new RackBench());
        long before = BEAN.getCurrentThreadAllocatedBytes();
        RackBench bench = new RackBench();
        long made = BEAN.getCurrentThreadAllocatedBytes();
        int calls = runOnce(bench);
        long after = BEAN.getCurrentThreadAllocatedBytes();
        System.out.println("RoomTest: " + (made - before) + " bytes for an object, " + (after - made) + " for "
                + calls + " calls");
        boolean fits = made - before <= OF_ONE_OBJECT && after - made <= OF_ALL_CALLS && calls <= 512;
        System.exit(fits ? 0 : 1);
    }

    /** The dearest calls of each kind, on tables of eight things. */
    private static int runOnce(RackBench x) {
        int calls = 0;
        for (int round = 0; round < 8; round++) {
            x.table(8);
            x.set(7, 6, 5);
            x.set(7, 5, 6);
            x.keep(round % 4);
            x.keepers();
            x.moves();
            x.least();
            x.like(round % 4);
            x.line(8, 3);
            x.dual();
            x.power(7, 0);
            x.power(7, 1);
            x.strands(4);
            for (int i = 0; i < 24; i++) {
                x.letter(i % 3 + 1);
            }
            x.colours();
            x.sums(1);
            x.orbits();
            x.wrong();
            x.within(255);
            x.part(0, 4);
            x.group(3);
            x.listed(4, 0);
            x.pick(4, 1, 6);
            x.modulus(2);
            x.closed();
            x.cover();
            x.is(4);
            x.fetch(round % 4);
            x.turn(8, 40319);
            x.count(4);
            x.row(0);
            calls += 57;
        }
        return calls;
    }
}
