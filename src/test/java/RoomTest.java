import com.sun.management.ThreadMXBean;
import java.lang.management.ManagementFactory;

/** All calls of a run live in one room: the dearest calls, as often as an object is used, make next to nothing. */
public final class RoomTest {
    private static final int CALLS = 512;
    /** A quarter of the room, if each of its 7.3 million elements had eight bytes. */
    private static final long MOST_FOR_OBJECT = 2_000_000;
    private static final long MOST_FOR_CALLS = 100_000;

    private static final ThreadMXBean THREADS = (ThreadMXBean) ManagementFactory.getThreadMXBean();

    public static void main(String[] args) {
        long before = used();
        BlockedCars x = new BlockedCars();
        Check.due("a new object is small", used() - before < MOST_FOR_OBJECT ? 1 : 0, 1);
        String yard = "lane 4;lane 4;lane 4;car 1 1 0;car 1 2 0;car 1 3 0;car 1 4 0;car 1 5 0;car 1 6 0;";
        Check.yard(x, yard);
        Check.work(x, "park 0 0;park 1 0;park 2 0;park 3 0;park 4 1;park 5 1;");
        Check.law(x, "least[most[length,tries],hour]*(cars+moved)%97");
        measure("morning", () -> x.morning(1));
        measure("corner", () -> x.corner(0));
        measure("spare", () -> x.spare(0));
        measure("frees", () -> x.frees(0, 1));
        measure("evening", () -> x.evening(63, 1));
        measure("leaks", () -> x.leaks(2));
        measure("look", () -> x.look(1));
        measure("span", () -> x.span(1, 20, 60, 12, 1, 0));
        measure("fronts", () -> x.fronts(9, 1, 40, 0));
        measure("pays", () -> x.pays(0, 63, 999));
        measure("image", () -> x.image() + x.restore());
        String work = "again 30[again 30[move 3 0 2;move 3 2 0;swap;];];";
        int[] w = Check.words(work);
        measure("work", () -> {
            for (int i = 0; i < w.length; i += 5) {
                x.feed(w[i], w[i + 1], w[i + 2], w[i + 3], w[i + 4]);
            }
            return x.work(work.length()) + x.undo();
        });
        measure("yard", () -> {
            x.feed(0x6c616e65, 0x20343b20, 0x20202020, 0x20202020, 0x20202020);
            return x.yard(20);
        });
        Check.end("RoomTest");
    }

    private static long used() {
        return THREADS.getThreadAllocatedBytes(Thread.currentThread().getId());
    }

    private static void measure(String what, Check.Call call) {
        long sum = call.answer();
        long before = used();
        for (int i = 0; i < CALLS; i++) {
            sum += call.answer();
        }
        long bytes = used() - before;
        Check.due(what + " makes " + bytes + " bytes in " + CALLS + " calls (" + sum + "), few", bytes < MOST_FOR_CALLS ? 1 : 0, 1);
    }
}
