import java.lang.management.ManagementFactory;

/** All calls of one run live in one room, so the dearest runs must make little. */
public final class RoomTest {
    private static final int CALLS = 512;
    private static int wrong = 0;

    private static long made() {
        com.sun.management.ThreadMXBean threads =
                (com.sun.management.ThreadMXBean) ManagementFactory.getThreadMXBean();
        return threads.getThreadAllocatedBytes(Thread.currentThread().getId());
    }

    private static void below(String what, long bytes, long most) {
        if (bytes > most) {
            wrong++;
            System.out.println(what + " made " + bytes + " bytes, more than " + most);
        }
    }

    public static void main(String[] args) {
        // A first round loads what the machine itself makes once.
        newObject();
        worths();
        heaps();
        surveys();
        below("a new object", newObject(), 32_000);
        below("worth over and over", worths(), 200_000);
        below("a heap that grows", heaps(), 200_000);
        below("parts and lengths over and over", surveys(), 200_000);
        System.out.println(wrong == 0 ? "the room is large enough" : wrong + " wrong");
        if (wrong != 0) {
            System.exit(1);
        }
    }

    private static long newObject() {
        long before = made();
        FenceBench x = new FenceBench();
        long bytes = made() - before;
        x.clear();
        return bytes;
    }

    private static long worths() {
        long before = made();
        FenceBench x = new FenceBench();
        for (int i = 0; i < CALLS / 4; i++) {
            x.grid(1, 5);
            x.draw(i % 16);
            x.worth();
            x.best(0);
        }
        return made() - before;
    }

    private static long heaps() {
        long before = made();
        FenceBench x = new FenceBench();
        for (int i = 0; i < CALLS / 2; i++) {
            x.heap(i % 3 == 0, 4 + i % 14, 1);
            x.open(0);
            if (i % 50 == 49) {
                x.empty();
            }
        }
        return made() - before;
    }

    private static long surveys() {
        long before = made();
        FenceBench x = new FenceBench();
        x.grid(12, 12);
        for (int i = 0; i < CALLS / 4; i++) {
            x.draw(i * 2);
            x.part(0, 0);
            x.simple();
            x.loose();
        }
        return made() - before;
    }
}
