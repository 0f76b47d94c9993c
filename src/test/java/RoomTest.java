import com.sun.management.ThreadMXBean;
import java.lang.management.ManagementFactory;

/** What runs of 512 calls make must stay small, for all calls of one run live in one room. */
public final class RoomTest {
    private static final int CALLS = 512;
    // An eighth of 7.3 million elements of 4 bytes.
    private static final long MOST_BYTES = 7_300_000L * 4 / 8;

    private static final Checks checks = new Checks("RoomTest");
    private static final ThreadMXBean threads = (ThreadMXBean) ManagementFactory.getThreadMXBean();

    private interface Run {
        void make();
    }

    public static void main(String[] args) {
        measure("sliding windows", RoomTest::slidingWindows);
        measure("sessions", RoomTest::sessions);
        measure("snapshots", RoomTest::snapshots);
        measure("plans", RoomTest::plans);
        measure("faults", RoomTest::faults);
        measure("questions", RoomTest::questions);
        measure("objects", RoomTest::objects);
        checks.end();
    }

    private static void measure(String what, Run run) {
        run.make();
        long thread = Thread.currentThread().getId();
        long before = threads.getThreadAllocatedBytes(thread);
        run.make();
        long bytes = threads.getThreadAllocatedBytes(thread) - before;
        System.out.println("RoomTest: " + what + ": " + bytes + " bytes");
        checks.due(what + " made " + bytes + " bytes, that they are few", bytes <= MOST_BYTES ? 1 : 0, 1);
    }

    private static int type(Streamloom x, String text) {
        for (int i = 0; i < text.length(); i++) {
            x.type(text.charAt(i));
        }
        return text.length();
    }

    private static int planned(Streamloom x, String query) {
        int calls = type(x, query);
        x.plan(false);
        x.idle(1, true);
        x.idle(2, true);
        return calls + 3;
    }

    private static void slidingWindows() {
        Streamloom x = new Streamloom();
        int calls = planned(x, "sum sliding 4 1 back");
        x.bound(0, 99);
        for (int time = 0; calls + 3 < CALLS; calls += 2) {
            x.event(0, time % 8, Math.min(99, time), 1);
            x.step(0);
            time++;
        }
        x.bound(0, 0);
        x.idle(0, false);
        checks.due("results", x.results() > 300 ? 1 : 0, 1);
    }

    private static void sessions() {
        Streamloom x = new Streamloom();
        int calls = planned(x, "sum session 9 late 99 back");
        int snapshot = 0;
        for (int time = 100; calls + 4 < CALLS; calls += 4) {
            x.event(0, 0, time, 1);
            x.step(0);
            x.barrier();
            x.complete(snapshot);
            snapshot++;
            time++;
        }
    }

    private static void snapshots() {
        Streamloom x = new Streamloom();
        int calls = planned(x, "sum sliding 4 1");
        x.bound(0, 99);
        for (int time = 0; time < 99; time++) {
            x.event(0, time % 8, time, 1);
            x.step(0);
            calls += 2;
        }
        for (int snapshot = 0; calls + 2 < CALLS; snapshot++) {
            x.barrier();
            x.complete(snapshot);
            calls += 2;
        }
        checks.due("windows", x.windows() > 300 ? 1 : 0, 1);
    }

    private static void plans() {
        Streamloom x = new Streamloom();
        for (int calls = 0; calls < CALLS; calls += 12) {
            type(x, "sum fixed 5");
            x.plan(false);
        }
    }

    private static void faults() {
        Streamloom x = new Streamloom();
        int calls = type(x, "sum if > -10 join sliding 40 10 late 15 diff");
        for (; calls < CALLS; calls++) {
            x.fault();
        }
    }

    private static void questions() {
        Streamloom x = new Streamloom();
        int calls = planned(x, "sum fixed 4 back");
        for (int time = 0; time < 20; time++) {
            x.event(0, time % 8, time, 1);
            x.step(0);
            calls += 2;
        }
        for (int i = 0; calls + 10 < CALLS; i++) {
            x.total(i % 8, i);
            x.totalAnew(i % 8, i);
            x.window(0, i % 5);
            x.result(0, i % 5);
            x.workers(1 + i % 4);
            x.load(0);
            x.barrier();
            x.complete(i);
            x.crash();
            calls += 9;
        }
    }

    private static void objects() {
        for (int calls = 0; calls < CALLS; calls++) {
            new Streamloom();
        }
    }
}
