import java.lang.management.ManagementFactory;

/**
 * What a run makes is made once: rows stand in the constructor, two more worlds at the first would() and
 * image(true), and nothing in any later call.
 */
public final class RoomTest {
    private static final com.sun.management.ThreadMXBean ROOM =
        (com.sun.management.ThreadMXBean) ManagementFactory.getThreadMXBean();

    public static void main(String[] args) {
        once();
        long before = ROOM.getThreadAllocatedBytes(Thread.currentThread().getId());
        once();
        long bytes = ROOM.getThreadAllocatedBytes(Thread.currentThread().getId()) - before;
        Due.yes("a run of 512 calls makes " + bytes + " bytes, 4 each element", bytes < 4 * 35000);
        Due.end("RoomTest");
    }

    private static void once() {
        AheadStore x = new AheadStore();
        x.act(1, 0);
        for (int i = 0; i < 100; i++) {
            x.add(1, i, 1);
        }
        x.keep(0, 0);
        x.image(true);
        for (int i = 0; i < 50; i++) {
            x.feed(0x666c7573, 0x683b2020, 0x20202020, 0x20202020, 0x20202020);
            x.plan();
            x.run(24);
            x.would(999, 1 + i % 9, i);
            x.ship(20);
            x.stand(i, 1);
            x.asOf(i, 14);
            x.look(i % 19);
        }
        x.crash(0);
        x.recover(-1);
        x.image(false);
    }
}
