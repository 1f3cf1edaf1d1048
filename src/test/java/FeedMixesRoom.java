import com.sun.management.ThreadMXBean;
import java.lang.management.ManagementFactory;

/** All calls of a run share one room for objects: so the calls, the dearest ones too, make none. */
public final class FeedMixesRoom {
    private static final ThreadMXBean THREADS = (ThreadMXBean) ManagementFactory.getThreadMXBean();
    // What asking for the count may itself make.
    private static final long SLACK = 2048;

    private static long sum = 0;

    public static void main(String[] args) {
        // Once before it is counted, so that loading of classes does not count.
        callAll();
        countOf();
        FeedMixes made = new FeedMixes();
        sum += made.made();
        long before = countOf();
        for (int time = 0; time < 7; time++) {
            callAll(made);
        }
        long bytes = countOf() - before;
        System.out.println("the calls made " + bytes + " bytes of objects");
        if (bytes > SLACK) {
            System.exit(1);
        }
    }

    private static long countOf() {
        return THREADS.getThreadAllocatedBytes(Thread.currentThread().getId());
    }

    private static void callAll() {
        callAll(new FeedMixes());
    }

    private static void callAll(FeedMixes x) {
        for (int stuff = 0; stuff < 4; stuff++) {
            sum += x.stuff(10 + stuff, 40);
            sum += x.holds(stuff, stuff % 3, 7 + 9 * stuff) ? 1 : 0;
            sum += x.shares(stuff, 0, 9) ? 1 : 0;
            sum += x.silo(stuff, 5) ? 1 : 0;
        }
        ask(x);
        for (int stuff = 0; stuff < 4; stuff++) {
            sum += x.silo(stuff, 0) ? 1 : 0;
        }
        ask(x);
        sum += x.need(1, 39, 39) ? 1 : 0;
        ask(x);
        sum += x.need(1, 2, 38) ? 1 : 0;
        ask(x);
    }

    private static void ask(FeedMixes x) {
        sum += x.run(40);
        sum += x.amount(1, 0) + x.cost(1) + x.tight() + x.clash(0) + x.line(2) + x.clean() + x.made();
        for (int nutrient = 0; nutrient < 3; nutrient++) {
            sum += x.dearer(nutrient, 0);
        }
    }
}
