import com.sun.management.ThreadMXBean;
import java.lang.management.ManagementFactory;

/**
 * All calls of a run live in one room of 600,000 objects and 7.3 million elements: the bytes that 512 of
 * the dearest calls make have to stay far below what so many elements take, counted as a byte each.
 */
public final class RoomTest {
    private static final long ROOM = 7_300_000L / 2;
    private static final int CALLS = 512;
    private static final ThreadMXBean THREADS = (ThreadMXBean) ManagementFactory.getThreadMXBean();
    private static final Check CHECK = new Check();

    public static void main(String[] args) {
        Wordnet x = new Wordnet();
        bytes("a new object", () -> new Wordnet(), 1, 400_000);
        x.sow(0, 1365, 67, 60);
        x.sow(0, 1400, 63, 60);
        x.fill(1, 5460, 63);
        for (int k = 0; k < 10; k++) {
            x.say(5460 - 700 * k % 4000);
        }
        x.gather(0, 0, 0, 0);
        bytes("digest", () -> x.digest() == 0 ? null : "", CALLS, 100_000);
        bytes("isSound", () -> x.isSound() ? "" : null, CALLS, 100_000);
        bytes("cut", () -> x.cut(2), CALLS, ROOM);
        bytes("words", () -> x.words(0, 0, 20), CALLS, ROOM);
        bytes("text", x::text, CALLS, ROOM);
        bytes("turn and digest", () -> x.turn(0) >= 0 && x.digest() != 0 ? "" : null, CALLS / 2, 100_000);
        bytes("pack and unpack", () -> x.pack(0) + x.unpack(2) > 0 ? "" : null, CALLS / 2, 100_000);
        CHECK.end();
    }

    private static void bytes(String what, Check.Call call, int calls, long most) {
        call.answer();
        long id = Thread.currentThread().getId();
        long before = THREADS.getThreadAllocatedBytes(id);
        for (int k = 0; k < calls; k++) {
            call.answer();
        }
        long made = THREADS.getThreadAllocatedBytes(id) - before;
        System.out.println(calls + " of " + what + " made " + made + " bytes");
        CHECK.same(calls + " of " + what + " stay in the room", made <= most, true);
    }
}
