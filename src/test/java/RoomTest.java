import com.sun.management.ThreadMXBean;
import java.lang.management.ManagementFactory;

/**
 * All calls of a run live in one room. An object with 512 of the dearest calls must take little more
 * of it than a new object takes: no call takes room of its own.
 */
public final class RoomTest {
    /** Elements of four bytes; the room has 7.3 million of them. */
    private static final long MOST_ELEMENTS = 8_000;
    private static final int CALLS = 512;

    public static void main(String[] args) {
        ThreadMXBean threads = (ThreadMXBean) ManagementFactory.getThreadMXBean();
        boolean enough = true;
        for (int kind = 0; kind < 2; kind++) {
            // Once before it is measured, so that what the machine itself loads does not count.
            use(kind);
            long before = threads.getCurrentThreadAllocatedBytes();
            use(kind);
            long elements = (threads.getCurrentThreadAllocatedBytes() - before) / 4;
            System.out.println("one object and " + CALLS + " calls: room for " + elements + " ints");
            enough &= elements > 0 && elements <= MOST_ELEMENTS;
        }
        System.exit(enough ? 0 : 1);
    }

    private static void use(int kind) {
        if (kind == 0) {
            planAgainAndAgain();
        } else {
            askForARing();
        }
    }

    private static void planAgainAndAgain() {
        ArenaPlan x = new ArenaPlan();
        for (int node = 0; node < 12; node++) {
            x.make(node < 6 ? 0 : 4, 16, 0);
        }
        for (int node = 6; node < 12; node++) {
            x.wire(node, 0, node - 6);
            x.wire(node, 1, (node - 5) % 6);
        }
        for (int round = 0; round < (CALLS - 24) / 6; round++) {
            x.keep(round % 12, round % 24 < 12);
            x.plan(round % 2);
            x.least();
            x.run();
            x.cell(0);
            x.about(round % 12, 3);
        }
    }

    private static void askForARing() {
        ArenaPlan x = new ArenaPlan();
        for (int node = 0; node < 12; node++) {
            x.make(2, 0, 0);
        }
        for (int node = 0; node < 12; node++) {
            x.wire(node, 0, (node + 1) % 12);
            x.wire(node, 1, node);
        }
        x.wire(0, 1, 2);
        x.wire(0, 0, 1);
        for (int call = 38; call < CALLS; call++) {
            x.ring(0);
        }
    }
}
