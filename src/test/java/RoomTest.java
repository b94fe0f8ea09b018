import java.lang.management.ManagementFactory;

/**
 * All calls of a run live in one room of some 600,000 objects and 7.3 million fields and elements:
 * what a run makes stays far below, because only the constructor makes anything.
 */
public final class RoomTest {
    // More calls than 512 are free to answer what they like, and to make what they like.
    private static final int ROUNDS = 10;
    private static final com.sun.management.ThreadMXBean THREADS =
        (com.sun.management.ThreadMXBean) ManagementFactory.getThreadMXBean();

    public static void main(String[] args) {
        THREADS.setThreadAllocatedMemoryEnabled(true);
        PulseClocks[] objects = {network(), network(), network(), network()};
        everyCall(objects[0]);
        long before = made();
        new PulseClocks();
        Check.due("bytes of a new object are below 30,000", made() - before < 30_000, true);
        before = made();
        for (PulseClocks x : objects) {
            for (int k = 0; k < ROUNDS; k++) {
                everyCall(x);
            }
        }
        // The machine makes some hundred bytes of its own in between.
        Check.due("the calls make nothing", made() - before < objects.length * ROUNDS * 300, true);
        Check.end();
    }

    private static long made() {
        return THREADS.getThreadAllocatedBytes(Thread.currentThread().getId());
    }

    private static PulseClocks network() {
        PulseClocks x = new PulseClocks();
        x.setPeriod(100);
        for (int c = 0; c < 9; c++) {
            x.add(9 * c);
        }
        for (int a = 0; a < 9; a++) {
            for (int b = 0; b < a; b++) {
                x.link(a, b, (a + b) % 10);
            }
        }
        return x;
    }

    private static void everyCall(PulseClocks x) {
        x.add(3);
        x.undo();
        x.setPhase(0, 50);
        x.setDrift(1, 7);
        x.blink(2, 3, 1);
        x.blink(3, 99, 1);
        x.mend(2);
        x.unlink(4, 5);
        x.link(4, 5, 9);
        x.setPeriod(100);
        x.setResponse(0, 5);
        x.tick(99);
        x.clock(4, 6);
        x.distance(0, 8);
        x.components();
        x.isNeeded(3);
        x.noted(5, true);
        x.groups();
        x.group(0, true);
        x.groupOf(1);
        x.spread();
        x.ticksUntil(1, 400);
        x.groupsAfter(400);
        x.repeats(400, true);
        x.leastStrength(400);
        x.basin(0, 400);
        x.worstPhase(0, 400);
        x.blamed(400);
        x.firesIn(0, 400);
        x.clearText();
        x.append('t');
        x.append('5');
        x.append(';');
        x.execute();
        x.digest();
        x.undo();
    }
}
