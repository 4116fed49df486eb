import com.sun.management.ThreadMXBean;
import java.lang.management.ManagementFactory;

/** All calls of a run live in one room: a new object is small, and no call makes anything that the next could use again. */
public final class RoomTest {
    private static final long NEW_ONE = 50_000;
    private static final long FIRST_CALLS = 150_000;
    private static final long LATER_CALLS = 2_000;
    private static final ThreadMXBean THREADS = (ThreadMXBean) ManagementFactory.getThreadMXBean();

    private RoomTest() {
    }

    public static void main(String[] args) {
        StringBuilder text = new StringBuilder();
        for (char c = 'a'; c <= 'h'; c++) {
            text.append("part p").append(c).append(" 1 ").append(c - 'a').append(" 9 2;");
        }
        text.append("worker a 1 1 1;worker b 2 2 2;worker c 3 3 3;tide=if minute<50 then 0 else 3;high=4-y/7;dog=1;");
        callAll(new TideRakes(), text.toString());
        long before = bytes();
        TideRakes rakes = new TideRakes();
        long made = bytes();
        callAll(rakes, text.toString());
        long first = bytes();
        int[] words = new int[5];
        for (int i = 0; i < 20; i++) {
            words[i / 4] = words[i / 4] << 8 | "seed 1;part a 1 1 1;".charAt(i);
        }
        long later = bytes();
        for (int i = 0; i < 20; i++) {
            rakes.feed(words[0], words[1], words[2], words[3], words[4]);
            rakes.read();
            askAll(rakes);
        }
        long end = bytes();
        Bench.due("a new one takes " + (made - before), made - before <= NEW_ONE, true);
        Bench.due("first calls take " + (first - made), first - made <= FIRST_CALLS, true);
        Bench.due("later calls take " + (end - later), end - later <= LATER_CALLS, true);
        Bench.end();
    }

    private static long bytes() {
        return THREADS.getThreadAllocatedBytes(Thread.currentThread().getId());
    }

    private static void callAll(TideRakes rakes, String text) {
        Bench.read(rakes, text);
        askAll(rakes);
    }

    private static void askAll(TideRakes rakes) {
        for (int worker = 0; worker < 3; worker++) {
            rakes.send(worker, worker);
            rakes.cross(worker);
            rakes.mend(worker, worker);
            rakes.plan(worker, 600, 0);
            rakes.planAt(worker, 600, 2);
            rakes.two(worker, 2 - worker, 600, 0);
            rakes.spare(worker, 600);
            rakes.quickest(worker, 1);
            rakes.mends(worker, 600, 1);
            rakes.after(worker, 600, 300);
            rakes.free(worker, 5);
            rakes.when(worker, 5);
            rakes.stays(worker, 5);
            rakes.window(worker, 0, true);
            rakes.dog(worker, 5);
            rakes.error(worker, true);
            rakes.hold(worker);
        }
        rakes.tell(0, 5, true);
        rakes.hands(600, 1);
        rakes.large(600);
        rakes.hopes(300, 1, 50);
        rakes.hope(300, 50);
        rakes.bestMinute();
        rakes.fails(3);
        rakes.late(1, -1);
        rakes.undo();
        rakes.restore(1);
        rakes.forget();
        rakes.count(4);
    }
}
