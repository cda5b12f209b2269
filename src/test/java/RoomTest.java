import java.lang.management.ManagementFactory;

/** All calls of a run live in one room: a call makes no object, an object and its parts are small. */
public final class RoomTest {
    private static final com.sun.management.ThreadMXBean THREAD =
        (com.sun.management.ThreadMXBean) ManagementFactory.getThreadMXBean();

    public static void main(String[] args) {
        // Once ahead, so that what the machine itself loads is not counted.
        run(full());
        ShedTalk x = full();
        long before = bytes();
        run(x);
        long made = bytes() - before;
        Due.due("bytes made in a run of calls are few: " + made, Math.max(2000, made), 2000);
        before = bytes();
        new ShedTalk();
        made = bytes() - before;
        Due.due("bytes of an object are few: " + made, Math.max(60000, made), 60000);
        Due.end();
    }

    private static long bytes() {
        return THREAD.getThreadAllocatedBytes(Thread.currentThread().getId());
    }

    private static ShedTalk full() {
        ShedTalk x = Due.told("far 98 98;weaver 0 2;weaver 16 0;weaver 17 0;weaver 1 2;weaver 3 2;weaver 33 0;pillar 63;"
            + "word 9 0;word 9 0;word 9 0;word 9 1;word 8 1;word 7 2;word 6 2;word 5 3;word 4 4;word 3 5;like 0 1;");
        for (int i = 0; i < 24; i++) {
            x.lip(0);
        }
        for (int i = 0; i < 10; i++) {
            x.seen(i % 6, i, true);
        }
        x.girl(5);
        return x;
    }

    private static void run(ShedTalk x) {
        for (int i = 0; i < 24; i++) {
            x.sees(0, 1, i % 2);
            x.clear(0, 1);
            x.knows(0, 1, i % 2, 3);
            x.teller(0, 1, i % 2, -1);
            x.meet(0, 1, i, 2);
            x.source();
            x.apart(0, 1);
            x.reads(i);
            x.mistaken(i);
            x.signs(i % 10);
            x.arrives(0, i % 10, 12);
            x.turns(0, 0, 1);
            x.gets();
            x.share();
            x.teach(i % 8);
            x.anew(i % 2, i % 6);
            x.shed();
            x.image(i % 2);
            x.from(i % 2);
            x.digest();
        }
    }
}
