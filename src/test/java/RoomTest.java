import java.lang.management.ManagementFactory;

/** All calls of a run live in one room: an object takes its share as it is made, and its calls take nothing more. */
public final class RoomTest {
    private static final com.sun.management.ThreadMXBean THREADS =
        (com.sun.management.ThreadMXBean) ManagementFactory.getThreadMXBean();

    public static void main(String[] args) {
        work(new DropChase(7));
        DropChase x = new DropChase(7);
        long before = taken();
        work(x);
        long took = taken() - before;
        Due.due(0, "bytes that a run of calls took, " + took + ", are few", took < 4096 ? 1 : 0, 1);
        before = taken();
        x = new DropChase(7);
        took = taken() - before;
        Due.due(0, "bytes that an object took, " + took + ", are few", took < 200_000 ? 1 : 0, 1);
        Due.end();
    }

    private static long taken() {
        return THREADS.getThreadAllocatedBytes(Thread.currentThread().getId());
    }

    private static void work(DropChase x) {
        x.line(0, 0, 7);
        x.put(0, 0, 0, 17);
        x.line(6, 2, 7);
        x.put(6, 2, 6, 1);
        x.copy(6, 0, 6, 1, 2);
        for (int kind = 1; kind < 8; kind++) {
            x.hand(0, kind, 2);
            x.hand(1, kind, 2);
        }
        x.fuel(1000);
        x.stand(0);
        for (int i = 0; i < 40; i++) {
            x.go(7 * i % Math.max(1, x.moves()));
            x.move(0, 1);
            x.rows(2);
            x.hunt(3);
            x.verify();
            x.write();
            x.read();
            x.digest();
            x.why(i, i + 1, false);
            x.whySet(1, i);
        }
        x.clear();
    }
}
