import java.lang.management.ManagementFactory;

/** What objects and calls allocate: all calls of a run live in one room, so the calls shall allocate nothing. */
public final class RoomTest {
    private static final long MOST_BYTES_OF_AN_OBJECT = 60_000;
    private static final long MOST_BYTES_OF_ALL_CALLS = 10_000;

    public static void main(String[] args) {
        com.sun.management.ThreadMXBean room = (com.sun.management.ThreadMXBean) ManagementFactory.getThreadMXBean();
        // Once ahead, so that what the machine itself needs is there.
        calls(new SpilledGroups());
        room.getCurrentThreadAllocatedBytes();
        long start = room.getCurrentThreadAllocatedBytes();
        SpilledGroups x = new SpilledGroups();
        long made = room.getCurrentThreadAllocatedBytes();
        calls(x);
        long called = room.getCurrentThreadAllocatedBytes();
        Check.that(made - start <= MOST_BYTES_OF_AN_OBJECT, "an object has " + (made - start) + " bytes");
        Check.that(called - made <= MOST_BYTES_OF_ALL_CALLS, "the calls allocate " + (called - made) + " bytes");
        Check.end();
    }

    private static void calls(SpilledGroups x) {
        x.set(2, 43691);
        x.set(1, 1);
        x.set(0, 1);
        for (int i = 0; i < 100; i++) {
            x.row(i / 2 * 192 + i % 2 * 3, i);
        }
        for (int i = 0; i < 60; i++) {
            x.type("1=1;".charAt(i % 4));
        }
        for (int i = 0; i < 15; i++) {
            x.groupOf(i, 5);
            x.finished(i);
            x.rowOf(i, 2);
            x.spillOf(i, 0);
            x.passOf(i, 0, 0);
            x.total(3);
            x.written(1, 1);
            x.bestBits(1, 0);
            x.enough();
            x.skewed(0);
            x.count(2);
            x.undo();
            x.fault(0);
            x.play();
            x.drop(3);
            x.clearText();
            x.type('1');
            x.set(0, 1 + i % 12);
        }
        x.clear();
    }
}
