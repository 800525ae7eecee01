import com.sun.management.ThreadMXBean;
import java.lang.management.ManagementFactory;

/**
 * All calls of one run live in one room of some 600,000 objects and arrays and 7.3 million fields and elements. An
 * object takes 16 bytes or more and an element at least one, so a run that takes less than 600,000 bytes is far inside.
 */
public final class RoomTest {
    private static final ThreadMXBean THREADS = (ThreadMXBean) ManagementFactory.getThreadMXBean();
    private static final long ROOM = 600_000;

    private interface Run {
        void on(FlowShelf x);
    }

    public static void main(String[] args) {
        fits("a new object", x -> { });
        fits("a flow by each packet", RoomTest::watch);
        fits("ticks and flows that they end", RoomTest::tick);
        fits("templates drafted, sealed, announced and withdrawn", RoomTest::draft);
        fits("records that come on the shelf and are dropped", RoomTest::shelve);
        fits("records of a known template, and pairs and totals of 80 rows", RoomTest::pair);
        Checks.close();
    }

    private static void fits(String what, Run run) {
        long bytes = 0;
        // The first time, classes are loaded too.
        for (int time = 0; time < 2; time++) {
            long before = THREADS.getCurrentThreadAllocatedBytes();
            run.on(new FlowShelf());
            bytes = THREADS.getCurrentThreadAllocatedBytes() - before;
        }
        Checks.due(what + ": " + bytes + " bytes are few enough", true, bytes > 0 && bytes < ROOM);
    }

    /** A new epoch forgets its flows, so that more can be made than by reports of 100 places. */
    private static void watch(FlowShelf x) {
        for (int epoch = 0; epoch < 6; epoch++) {
            Checks.template(x, 0, 0, 0, 1);
            for (int i = 0; i < 3; i++) {
                Checks.finished(x, 0, 20);
                x.report(0);
            }
            Checks.finished(x, 0, 18);
            if (epoch < 5) {
                x.restart(0);
            }
        }
    }

    private static void tick(FlowShelf x) {
        for (int i = 0; i < 20; i++) {
            x.packet(i % 2, i, 0, 0, 9999, false);
            for (int k = 0; k < 23; k++) {
                x.tick(i % 2, 100);
            }
        }
    }

    private static void draft(FlowShelf x) {
        for (int i = 0; i < 50; i++) {
            for (int f = 0; f < 7; f++) {
                x.field(0, 1, f, 0);
            }
            x.seal(0, 1);
            if (i < 30) {
                x.announce(0, 1);
            }
            x.withdraw(0, 1);
        }
    }

    /** One report of one record, which has another place each time it is heard. */
    private static void shelve(FlowShelf x) {
        Checks.template(x, 0, 0, 0, 1);
        Checks.finished(x, 0, 1);
        x.report(0);
        for (int epoch = 0; epoch < 3; epoch++) {
            x.poke(0, 1, epoch);
            for (int place = 0; place < 80; place++) {
                x.poke(0, 6, place);
                x.hear(0);
            }
        }
        Checks.due("dropped", 3 * 80 - 5, x.count(0, 7));
    }

    /** One report of ten records, heard at eight places. */
    private static void pair(FlowShelf x) {
        Checks.template(x, 0, 0, 0, 1, 1, 1, 2, 1, 5, 2);
        x.hear(x.announce(0, 0));
        for (int i = 0; i < 10; i++) {
            x.packet(0, i % 2, 1 - i % 2, 3, 9999, true);
        }
        int report = x.report(0);
        for (int place = 0; place < 80; place += 10) {
            x.poke(report, 6, place);
            x.hear(report);
        }
        for (int row = 0; row < 80; row++) {
            x.other(row);
            x.total(0, 2, 3, 5);
            x.row(row, 8);
            x.count(0, 5);
            x.hear(report);
        }
        Checks.due("rows", 80, x.rows());
    }
}
