import java.lang.management.ManagementFactory;

/** All calls live in one room: objects are made by the constructor alone, and few of them. */
public final class RoomTest {
    // A compiler or a counter of the machine may make a little of its own between two looks.
    private static final long SLACK = 20_000;
    private static final long MOST_FOR_A_NEW_OBJECT = 8_000;

    public static void main(String[] args) {
        com.sun.management.ThreadMXBean bean =
            (com.sun.management.ThreadMXBean) ManagementFactory.getThreadMXBean();
        // Each once ahead, so that loading classes is not counted.
        dearestCalls(new DriveTicks());
        bean.getCurrentThreadAllocatedBytes();
        long before = bean.getCurrentThreadAllocatedBytes();
        DriveTicks x = new DriveTicks();
        long made = bean.getCurrentThreadAllocatedBytes();
        dearestCalls(x);
        long called = bean.getCurrentThreadAllocatedBytes();
        Check.isTrue("bytes of a new object: " + (made - before), made - before <= MOST_FOR_A_NEW_OBJECT);
        Check.isTrue("bytes of 500 calls: " + (called - made), called - made <= SLACK);
        Check.finish("RoomTest");
    }

    private static void dearestCalls(DriveTicks x) {
        for (int k = 0; k < 30; k++) {
            x.draw(k);
            x.sets(0, 96);
            x.sets(3, 20);
            x.sets(6, 1);
            x.wish(k % 3, 59, k);
            x.type('u');
            x.type(';');
            x.reads();
            x.settles(0);
            x.tunes(0);
            x.shift(0);
            x.events();
            x.event(k, 0);
            x.run(k, 0);
            x.steps(50);
            x.memory(3, 3);
            x.digest();
        }
    }
}
