import com.sun.management.ThreadMXBean;
import java.lang.management.ManagementFactory;

/**
 * All calls of a run live in one room of 600,000 objects and 7.3 million elements: the bytes that a run of the
 * dearest calls makes have to stay far below what so many elements take, counted as a byte each.
 */
public final class RoomTest {
    private static final long ROOM = 7_300_000L / 2;
    /** An object is for 512 calls; some of them make it full. */
    private static final int CALLS = 480;
    private static final ThreadMXBean THREADS = (ThreadMXBean) ManagementFactory.getThreadMXBean();
    private static final Check CHECK = new Check();

    private interface Call {
        Object on(Wordnet x);
    }

    public static void main(String[] args) {
        bytes("a new object", x -> new Wordnet(), 1, 400_000);
        bytes("digest", x -> x.digest() == 0 ? null : "", CALLS, 100_000);
        bytes("isSound", x -> x.isSound() ? "" : null, CALLS, 100_000);
        bytes("cut", x -> x.cut(2), CALLS, ROOM);
        bytes("words", x -> x.words(0, 0, 20), CALLS, ROOM);
        bytes("text", Wordnet::text, CALLS, ROOM);
        bytes("turn and digest", x -> x.turn(0) >= 0 && x.digest() != 0 ? "" : null, CALLS / 2, 100_000);
        bytes("pack and unpack", x -> x.pack(0) + x.unpack(2) > 0 ? "" : null, CALLS / 2, 100_000);
        CHECK.end();
    }

    private static Wordnet prepared() {
        Wordnet x = new Wordnet();
        x.sow(0, 1365, 67, 60);
        x.sow(0, 1400, 63, 60);
        x.fill(1, 5460, 63);
        for (int k = 0; k < 10; k++) {
            x.say(5460 - 700 * k % 4000);
        }
        x.gather(0, 0, 0, 0);
        return x;
    }

    private static void bytes(String what, Call call, int calls, long most) {
        Wordnet x = prepared();
        call.on(x);
        long id = Thread.currentThread().getId();
        long before = THREADS.getThreadAllocatedBytes(id);
        for (int k = 0; k < calls; k++) {
            call.on(x);
        }
        long made = THREADS.getThreadAllocatedBytes(id) - before;
        System.out.println(calls + " of " + what + " made " + made + " bytes");
        CHECK.same(calls + " of " + what + " stay in the room", made <= most, true);
    }
}
