import java.lang.management.ManagementFactory;

/** An object and all its calls live in one room, the dearest ones, too: 600,000 objects of sixteen bytes at least. */
public final class RoomTest {
    private static final com.sun.management.ThreadMXBean THREAD =
        (com.sun.management.ThreadMXBean) ManagementFactory.getThreadMXBean();
    private static final long ROOM = 600000 * 16;

    public static void main(String[] args) {
        // Once ahead, so that what the machine itself loads is not counted.
        run(full());
        long before = bytes();
        ShedTalk x = full();
        run(x);
        long made = bytes() - before;
        Due.due("bytes made by an object and its calls: " + made, Math.max(ROOM, made), ROOM);
        Due.end();
    }

    private static long bytes() {
        return THREAD.getThreadAllocatedBytes(Thread.currentThread().getId());
    }

    private static ShedTalk full() {
        ShedTalk x = Due.told("far 98 98;weaver 0 2;weaver 16 0;weaver 17 0;weaver 1 2;weaver 3 2;weaver 33 0;pillar 63;"
            + "word 9 0;word 9 0;word 9 0;word 9 1;word 8 1;word 7 2;word 6 2;word 5 3;word 4 4;word 3 5;like 0 1;");
        for (int i = 0; i < 24; i++) {
            x.lip(0);
        }
        for (int i = 0; i < 10; i++) {
            x.seen(i % 6, i, true);
        }
        x.girl(5);
        x.image(0);
        return x;
    }

    // Some 500 calls with those that made the object.
    private static void run(ShedTalk x) {
        for (int i = 0; i < 22; i++) {
            x.sees(0, 1, i % 2);
            x.clear(0, 1);
            x.knows(0, 1, i % 2, 3);
            x.teller(0, 1, i % 2, -1);
            x.meet(0, 1, i, 2);
            x.source();
            x.apart(0, 1);
            x.reads(i);
            x.mistaken(i);
            x.signs(i % 10);
            x.arrives(0, i % 10, 12);
            x.turns(0, 0, 1);
            x.gets();
            x.share();
            x.teach(i % 8);
            x.anew(i % 2, i % 6);
            x.image(1);
            x.shed();
            x.from(0);
            x.digest();
        }
    }
}
