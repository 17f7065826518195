import java.lang.management.ManagementFactory;

/** What a run makes is counted: the dearest calls, each as often as a run has calls, stay far within the room. */
public final class RoomTest {
    /** A tenth of the room's 7.3 million fields and elements, at four bytes each at least. */
    private static final long ROOM = 2_900_000L;

    private RoomTest() {
    }

    public static void main(String[] args) {
        // what the machine makes for itself at first is not the run's
        run();
        newObjects();
        Due.is("bytes of a run, too many", Math.max(0, bytesOf(RoomTest::run) - ROOM), 0);
        Due.is("bytes of 512 new objects, too many", Math.max(0, bytesOf(RoomTest::newObjects) - 10 * ROOM), 0);
        Due.end();
    }

    private static long bytesOf(Runnable what) {
        com.sun.management.ThreadMXBean bean = (com.sun.management.ThreadMXBean) ManagementFactory.getThreadMXBean();
        long before = bean.getCurrentThreadAllocatedBytes();
        what.run();
        return bean.getCurrentThreadAllocatedBytes() - before;
    }

    private static void newObjects() {
        for (int i = 0; i < 512; i++) {
            new RiceHall().count(0);
        }
    }

    private static void run() {
        RiceHall x = new RiceHall();
        for (int p = 0; p < 16; p++) {
            x.person(0);
        }
        for (int s = 0; s < 24; s++) {
            x.light();
            for (int c = 0; c < 60; c++) {
                x.cry(c % 16, c % 3 == 0, 50, 100 + c);
            }
            x.pass(60);
        }
        for (int i = 0; i < 512; i++) {
            x.feed(0x68616c74, 0x3b68616c, 0x743b6861, 0x6c743b68, 0x616c743b);
            x.rules(0, i % 21);
            x.other(i % 24, i, 99999);
            x.fails(i % 16, i % 4);
            x.news(0, 0, i);
            x.hears(0, i, i % 16);
        }
    }
}
