import java.lang.management.ManagementFactory;
import java.util.Random;

/** All calls of a run live in one room: nothing but a new object, and a house once for each that is kept, is made. */
public final class RoomTest {
    private static final Check CHECK = new Check();
    private static final String FULL = full();

    public static void main(String[] args) {
        // Once ahead, so that no class is loaded while it is measured.
        dearRun(new RatSorters());
        RatSorters[] kept = new RatSorters[1];
        long before = made();
        kept[0] = new RatSorters();
        long object = made() - before;
        CHECK.due("a new object takes less than 64 KiB: " + object, object < 65536, true);
        dearRun(kept[0]);
        before = made();
        dearRun(kept[0]);
        long again = made() - before;
        // What the test itself makes to feed a text is in it.
        CHECK.due("a run of dear calls takes less than 64 KiB: " + again, again < 65536, true);
        CHECK.end("room");
    }

    private static long made() {
        return ((com.sun.management.ThreadMXBean) ManagementFactory.getThreadMXBean()).getCurrentThreadAllocatedBytes();
    }

    private static String full() {
        StringBuilder b = new StringBuilder("seed 77; errs = 20; eats = hunger / 5; odd 30;");
        for (int i = 0; i < 6; i++) {
            char c = (char) ('a' + i);
            b.append("grain g").append(c).append(" 900 ").append(i + 1).append(';');
            b.append("hole h").append(c).append(' ').append(i + 1).append(" g").append(c).append(';');
        }
        for (int i = 0; i < 8; i++) {
            char c = (char) ('a' + i % 6);
            b.append("rat r").append((char) ('a' + i)).append(" g").append(c).append(" h").append(c).append(" 0 9;");
        }
        return b.append("wants 9 ga 3; wants 8 gb 2 gc 4;").toString();
    }

    private static void dearRun(RatSorters x) {
        Check.read(x, FULL);
        Random random = new Random(5);
        for (int i = 0; i < 50; i++) {
            x.minutes(1 + random.nextInt(9));
            x.swap(random.nextInt(6), random.nextInt(6));
            x.then(600, 0);
            x.tell(i % 6, 0, i, 0);
        }
        for (int i = 0; i < 3; i++) {
            x.hold(i);
            x.hire(300, 0);
            x.taught(15 << i, 300);
            x.taughtAt(15 << i, 300, 3);
            x.bestSwap(0);
            x.missed(600, 0);
            x.catAt(120, 0);
            x.starves(i);
            x.mean(20, 600);
            x.sales(0);
            x.jokes(i, -1);
            x.restore(i);
            x.undo();
        }
    }
}
