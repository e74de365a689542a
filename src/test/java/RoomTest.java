import com.sun.management.ThreadMXBean;
import java.lang.management.ManagementFactory;

/** All calls of a run share one room: an object is small, and its calls make nothing more. */
public final class RoomTest {
    private static final long OBJECT = 60_000, CALLS = 500;
    private static final ThreadMXBean THREADS = (ThreadMXBean) ManagementFactory.getThreadMXBean();
    private static final Check check = new Check();

    public static void main(String[] args) {
        // What the first object and the first calls take is partly the machine's own.
        useAll(fullObject());
        long before = bytes();
        ShoutGroups x = fullObject();
        long object = bytes() - before;
        before = bytes();
        useAll(x);
        long calls = bytes() - before;
        atMost("a new object with both slots", object, OBJECT);
        atMost("all calls, 512 times each", calls, CALLS);
        check.end();
    }

    private static ShoutGroups fullObject() {
        ShoutGroups x = new ShoutGroups();
        x.save(0);
        x.save(1);
        return x;
    }

    private static void useAll(ShoutGroups x) {
        long text = Look.pack("r1:1;w2:");
        long more = Look.pack("2=3;r4:5");
        for (int i = 0; i < 512; i++) {
            int note = i % 24;
            int reader = i * 7 % 16;
            x.read(reader, i * 5 % 24);
            x.change(i * 3 % 16, i * 11 % 24, i);
            x.recall(note);
            x.putBack(reader, note);
            x.set(ShoutGroups.ROOM, 1 + i % 8);
            x.ofNote(note, 6);
            x.onShelf(reader, 0, 1);
            x.ofReader(reader, 6);
            x.count(4);
            x.costOfReading(reader, note);
            x.costOfChange(reader, note, 0);
            x.cheapest(note);
            x.loudest(1);
            x.best(2);
            x.put(text);
            x.put(more);
            x.fault();
            x.carryOut();
            x.put('r');
            x.wipe();
            x.save(i & 1);
            x.restore(i >> 1 & 1);
            x.undo();
        }
        x.account();
    }

    private static long bytes() {
        return THREADS.getThreadAllocatedBytes(Thread.currentThread().getId());
    }

    private static void atMost(String what, long bytes, long limit) {
        check.due(what + " takes " + bytes + " bytes, more than " + limit, bytes > limit ? 1 : 0, 0);
        System.out.println(what + ": " + bytes + " bytes");
    }
}
