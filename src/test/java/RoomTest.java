import com.sun.management.ThreadMXBean;
import java.lang.management.ManagementFactory;

/** What an object and its calls make is little: all calls of a run live in one room. */
public final class RoomTest {
    private static final long OBJECT_MOST = 60_000;
    private static final long CALLS_MOST = 60_000;
    private static final int CALLS = 490;
    private static int sink = 0;

    public static void main(String[] args) {
        ThreadMXBean bean = (ThreadMXBean) ManagementFactory.getThreadMXBean();
        if (!bean.isThreadAllocatedMemorySupported()) {
            System.out.println("what is made can't be counted here");
            return;
        }
        // The first round loads what the machine itself needs.
        dearCalls(new RecordDesk());
        long id = Thread.currentThread().getId();
        long before = bean.getThreadAllocatedBytes(id);
        RecordDesk desk = new RecordDesk();
        long made = bean.getThreadAllocatedBytes(id);
        dearCalls(desk);
        long called = bean.getThreadAllocatedBytes(id);
        System.out.println("an object: " + (made - before) + " bytes, its calls: " + (called - made) + " bytes");
        if (made - before > OBJECT_MOST || called - made > CALLS_MOST) {
            System.out.println("that is too much");
            System.exit(1);
        }
    }

    private static void feed(RecordDesk desk, String text) {
        for (int from = 0; from < text.length(); from += 20) {
            int[] w = new int[5];
            for (int i = 0; i < 20; i++) {
                w[i / 4] = w[i / 4] << 8 | (from + i < text.length() ? text.charAt(from + i) : ' ');
            }
            desk.feed(w[0], w[1], w[2], w[3], w[4]);
        }
    }

    private static void dearCalls(RecordDesk desk) {
        String text = "point 1;thread a:read 0 0,store 0 0,jump a;thread a:load 0 0,store 0 0,jump a;";
        feed(desk, text);
        sink += desk.program(text.length());
        for (int i = 0; i < 8; i++) {
            sink += desk.give(0, i) + desk.steps(50);
        }
        for (int i = 0; i < CALLS; i++) {
            switch (i % 10) {
                case 0: sink += desk.outcomes(400, 0); break;
                case 1: sink += desk.toSpare(400, 1); break;
                case 2: sink += desk.matters(0); break;
                case 3: sink += desk.races(2); break;
                case 4: sink += desk.diverged(0, 0, 1, i % 3); break;
                case 5: desk.image(); break;
                case 6: sink += desk.undo(); break;
                case 7: sink += desk.restore() ? 1 : 0; break;
                case 8: sink += desk.race(5, 0) + desk.hot(1, 1); break;
                default: sink += desk.guards(0) + desk.mark(); break;
            }
        }
    }
}
