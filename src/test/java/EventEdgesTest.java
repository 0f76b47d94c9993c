/** The edges of promises 1, 6 to 9, 11 and 12 and of "Events": both sides of each. */
public final class EventEdgesTest extends LoomChecks {
    private static final int[] PARTITIONS = {LEAST, -2, -1, 0, 1, 2, 3, 4, MOST};
    private static final int[] KEYS = {LEAST, -1, 0, 7, 8, MOST};
    private static final int[] TIMES = {LEAST, -1, 0, 999, 1000, MOST};
    private static final int[] VALUES = {LEAST, -100, -99, 0, 99, 100, MOST};

    public static void main(String[] args) {
        begin("EventEdgesTest");
        aNewObject();
        fiveHundredAndTwelveCalls();
        rangesOfEvents();
        threeHundredEvents();
        fullStaysFull();
        theOrderOfEvents();
        eventsWithoutAPlan();
        rangesOfBounds();
        whenABoundIsFoundBy();
        boundsWithoutAPlan();
        rangesOfIdle();
        idleWithoutAPlan();
        idleFindsTellsAndDrops();
        allIdle();
        idleWithOpenResults();
        rangesOfTheTable();
        sixtyValues();
        valuesAsOfTimes();
        valuesOfOneTime();
        valuesOfOtherKeys();
        valuesToldBehindAStep();
        watermarkAtFirst();
        watermarkOfSeveral();
        watermarkOnlyWithReadOnes();
        watermarkNeverFalls();
        watermarkIsOfTheGreatestTime();
        watermarkOfRefusedSteps();
        rangesOfRead();
        end();
    }

    private static boolean within(int number, int least, int most) {
        return number >= least && number <= most;
    }

    // ---- promise 1

    private static void aNewObject() {
        about = "without a query, events and a table";
        Streamloom x = new Streamloom();
        throwsDue("no query", STATE, () -> x.step(0));
        throwsDue("no query", STATE, () -> x.barrier());
        throwsDue("no query", STATE, () -> x.crash());
        throwsDue("no query", STATE, () -> x.totalAnew(0, 0));
        due("an empty text", x.wipe(), 0);
        due("the first event", x.event(2, 0, 0, 0), 1);
        due("the first of another partition", x.event(1, 0, 0, 0), 1);
        due("the first of the table", x.table(0, 0, 0), 1);
        due("one worker", x.load(0), 0);
        throwsDue("no second worker", INDEX, () -> x.load(1));
        Streamloom y = single("sum join fixed 5");
        throwsDue("no event", ELEMENT, () -> y.step(0));
        feed(y, 0, 0, 0, 3);
        due("no table", y.window(0, 3), 3);
        Streamloom z = new Streamloom();
        due("nothing of one object is in another", z.table(0, 0, 0), 1);
    }

    private static void fiveHundredAndTwelveCalls() {
        about = "an object is used for at most 512 calls";
        Streamloom x = new Streamloom();
        for (int i = 0; i < 51; i++) {
            due("wipe", x.wipe(), i == 0 ? 0 : 9);
            type(x, "sum fixed");
        }
        due("the 511th", x.type(' '), 10);
        due("the 512th", x.wipe(), 10);
        Streamloom y = single("sum fixed 1");
        int calls = 15;
        for (int time = 0; calls < 508; time++) {
            due("step", feed(y, 0, 0, time, 1), time == 0 ? 0 : 1);
            due("barrier", y.barrier(), time);
            due("complete", y.complete(time), time == 0 ? 0 : 1);
            calls += 4;
        }
        due("calls", calls, 511);
        due("the 512th", y.watermark(), 123);
    }

    // ---- promise 6

    private static void rangesOfEvents() {
        about = "partition 0 to 2, key 0 to 7, time 0 to 999, value -99 to 99";
        for (int partition : PARTITIONS) {
            for (int key : KEYS) {
                for (int time : TIMES) {
                    for (int value : VALUES) {
                        Streamloom x = new Streamloom();
                        String call = "event(" + partition + ", " + key + ", " + time + ", " + value + ")";
                        if (!within(partition, 0, 2) || !within(key, 0, 7)) {
                            throwsDue(call, INDEX, () -> x.event(partition, key, time, value));
                        } else if (!within(time, 0, 999) || !within(value, -99, 99)) {
                            throwsDue(call, ARGUMENT, () -> x.event(partition, key, time, value));
                        } else {
                            due(call, x.event(partition, key, time, value), 1);
                        }
                    }
                }
            }
        }
        Streamloom x = single("sum fixed 1 late 0");
        x.bound(0, 99);
        feed(x, 0, 0, 999, -99);
        feed(x, 0, 7, 999, 99);
        window(x, 0, 0, 999, 1000, -99, 0);
        window(x, 1, 7, 999, 1000, 99, 0);
        feed(x, 0, 7, 0, 5);
        due("time 0 is too late at 900", x.tooLate(), 1);
        Streamloom y = single("sum fixed 1");
        feed(y, 0, 0, 0, 5);
        window(y, 0, 0, 0, 1, 5, 0);
    }

    private static void fill(Streamloom x, int events) {
        for (int i = 0; i < events; i++) {
            x.event(0, 0, 0, 0);
        }
    }

    private static void threeHundredEvents() {
        about = "IllegalStateException if 300 events were told";
        Streamloom x = new Streamloom();
        for (int i = 0; i < 299; i++) {
            due("event", x.event(i % 3, 0, 0, 0), i / 3 + 1);
        }
        due("the 300th", x.event(2, 0, 0, 0), 100);
        for (int partition = 0; partition < 3; partition++) {
            int full = partition;
            throwsDue("the 301st", STATE, () -> x.event(full, 0, 0, 0));
            throwsDue("the 301st, time 1000", ARGUMENT, () -> x.event(full, 0, 1000, 0));
            throwsDue("the 301st, value -100", ARGUMENT, () -> x.event(full, 0, 0, -100));
            throwsDue("the 301st, key 8, value -100", INDEX, () -> x.event(full, 8, 0, -100));
        }
        throwsDue("the 301st, partition 3", INDEX, () -> x.event(3, 0, 0, 0));
        for (int partition = 0; partition < 3; partition++) {
            Streamloom y = new Streamloom();
            for (int i = 1; i <= 300; i++) {
                due("all of one partition", y.event(partition, 7, 999, 99), i);
            }
            int full = partition;
            throwsDue("the 301st of one partition", STATE, () -> y.event(full, 0, 0, 0));
            throwsDue("the 301st of another", STATE, () -> y.event((full + 1) % 3, 0, 0, 0));
        }
        Streamloom z = new Streamloom();
        for (int i = 0; i < 50; i++) {
            throwsDue("a refused event", ARGUMENT, () -> z.event(0, 0, -1, 0));
        }
        for (int i = 1; i <= 300; i++) {
            due("refused events are not told", z.event(0, 0, 0, 0), i);
        }
    }

    private static void fullStaysFull() {
        about = "at most 300 events are told, whatever becomes of them";
        Streamloom x = single("count fixed 5");
        fill(x, 300);
        throwsDue("none was read", STATE, () -> x.event(0, 0, 0, 0));
        for (int i = 0; i < 100; i++) {
            x.step(0);
        }
        throwsDue("some were read", STATE, () -> x.event(0, 0, 0, 0));
        x.crash();
        throwsDue("behind a crash", STATE, () -> x.event(0, 0, 0, 0));
        plan(x, "count fixed 5", false);
        throwsDue("behind a plan anew", STATE, () -> x.event(0, 0, 0, 0));
        due("all can be read", x.step(0), 0);
        Streamloom y = single("count fixed 5");
        fill(y, 300);
        for (int i = 0; i < 150; i++) {
            due("step", y.step(0), 0);
        }
        due("read", y.read(0), 150);
        due("the window of all that were read", y.window(0, 3), 150);
    }

    private static void theOrderOfEvents() {
        about = "events are read partition by partition, in their order";
        Streamloom x = planned("sum session 1");
        for (int i = 0; i < 3; i++) {
            for (int partition = 0; partition < 3; partition++) {
                due("event", x.event(partition, partition, 20 - 10 * i, 1 + i), i + 1);
            }
        }
        x.step(1);
        window(x, 0, 1, 20, 21, 1, 0);
        x.step(1);
        window(x, 0, 1, 10, 11, 2, 0);
        x.step(2);
        window(x, 2, 2, 20, 21, 1, 0);
        x.step(1);
        window(x, 0, 1, 0, 1, 3, 0);
        throwsDue("the fourth of 1", ELEMENT, () -> x.step(1));
        due("read of 0", x.read(0), 0);
        due("read of 1", x.read(1), 3);
        due("read of 2", x.read(2), 1);
        x.event(1, 5, 50, 9);
        x.step(1);
        window(x, 4, 5, 50, 51, 9, 0);
        throwsDue("the fifth of 1", ELEMENT, () -> x.step(1));
    }

    private static void eventsWithoutAPlan() {
        about = "events told ahead of a plan are read by it";
        Streamloom x = new Streamloom();
        due("the first", x.event(0, 3, 7, 5), 1);
        plan(x, "sum fixed 5", false);
        due("the second", x.event(0, 3, 8, 6), 2);
        x.step(0);
        window(x, 0, 3, 5, 10, 5, 0);
        x.step(0);
        window(x, 0, 3, 5, 10, 11, 0);
        throwsDue("no third", ELEMENT, () -> x.step(0));
    }

    // ---- promise 7

    private static void rangesOfBounds() {
        about = "partition 0 to 2, bound 0 to 99";
        int[] bounds = {LEAST, -1, 0, 1, 98, 99, 100, MOST};
        for (int partition : PARTITIONS) {
            for (int bound : bounds) {
                Streamloom x = new Streamloom();
                String call = "bound(" + partition + ", " + bound + ")";
                if (!within(partition, 0, 2)) {
                    throwsDue(call, INDEX, () -> x.bound(partition, bound));
                } else if (!within(bound, 0, 99)) {
                    throwsDue(call, ARGUMENT, () -> x.bound(partition, bound));
                    due("the bound stays", x.bound(partition, 0), 0);
                } else {
                    due(call, x.bound(partition, bound), 0);
                    throwsDue("then 100", ARGUMENT, () -> x.bound(partition, 100));
                    due("it stays, and is the one before", x.bound(partition, 7), bound);
                    due("the others have none", x.bound((partition + 1) % 3, 0), 0);
                    due("the others have none", x.bound((partition + 2) % 3, 0), 0);
                    due("the one before", x.bound(partition, 7), 7);
                }
            }
        }
    }

    private static void whenABoundIsFoundBy() {
        about = "the watermark is found by it with the next step, or idle()";
        Streamloom x = single("sum fixed 5");
        x.bound(0, 10);
        feed(x, 0, 0, 50, 1);
        due("watermark", x.watermark(), 40);
        due("before", x.bound(0, 9), 10);
        due("not by bound()", x.watermark(), 40);
        feed(x, 0, 0, 50, 1);
        due("by a step", x.watermark(), 41);
        x.bound(0, 8);
        due("not by bound()", x.watermark(), 41);
        due("by idle() of it", x.idle(0, false), 42);
        x.bound(0, 7);
        due("by idle() of another", x.idle(1, true), 43);
        x.bound(0, 6);
        feed(x, 2, 0, 99, 1);
        due("by a step of another", x.watermark(), 44);
        x.bound(0, 0);
        x.barrier();
        x.workers(2);
        x.event(0, 0, 0, 0);
        x.table(0, 0, 0);
        due("by nothing else", x.watermark(), 44);
        x.bound(0, 5);
        feed(x, 2, 0, 99, 1);
        due("by the one of then", x.watermark(), 45);
        Streamloom y = single("sum fixed 5");
        y.bound(0, 99);
        feed(y, 0, 0, 98, 1);
        due("98 less 99", y.watermark(), -1);
        feed(y, 0, 0, 99, 1);
        due("99 less 99", y.watermark(), 0);
        y.bound(0, 0);
        feed(y, 0, 0, 3, 1);
        due("without a bound", y.watermark(), 99);
    }

    private static void boundsWithoutAPlan() {
        about = "a bound without a plan";
        Streamloom x = new Streamloom();
        due("0 at first", x.bound(0, 5), 0);
        plan(x, "sum fixed 5", false);
        x.idle(1, true);
        x.idle(2, true);
        feed(x, 0, 0, 20, 1);
        due("it holds in the plan", x.watermark(), 15);
        plan(x, "sum fixed 5", false);
        x.step(0);
        due("and in the next one", x.watermark(), 15);
    }

    // ---- promise 8

    private static void rangesOfIdle() {
        about = "partition 0 to 2, of idle()";
        Streamloom none = new Streamloom();
        Streamloom x = planned("sum fixed 5");
        for (int partition : PARTITIONS) {
            for (int i = 0; i < 2; i++) {
                boolean isIdle = i == 0;
                if (within(partition, 0, 2)) {
                    due("idle " + partition, x.idle(partition, isIdle), -1);
                    due("idle " + partition + " without a plan", none.idle(partition, isIdle), -1);
                } else {
                    throwsDue("idle " + partition, INDEX, () -> x.idle(partition, isIdle));
                    throwsDue("idle " + partition + " without a plan", INDEX, () -> none.idle(partition, isIdle));
                }
            }
        }
    }

    private static void idleWithoutAPlan() {
        about = "if there is a plan, the watermark is found then";
        Streamloom x = new Streamloom();
        x.event(0, 0, 50, 1);
        due("without a plan", x.idle(1, true), -1);
        due("without a plan", x.idle(2, true), -1);
        due("without a plan", x.idle(0, false), -1);
        plan(x, "sum fixed 5", false);
        due("nothing was read", x.idle(0, false), -1);
        x.step(0);
        due("the idle ones stay with the plan", x.watermark(), 50);
        due("it is found again", x.idle(0, false), 50);
    }

    private static void idleFindsTellsAndDrops() {
        about = "windows are told and dropped as behind a step";
        Streamloom x = planned("sum fixed 5 late 2");
        x.idle(2, true);
        feed(x, 0, 1, 4, 1);
        feed(x, 0, 0, 3, 2);
        feed(x, 0, 0, 10, 4);
        x.bound(0, 6);
        due("4 is below the end", x.idle(1, true), 4);
        due("none is told", x.results(), 0);
        x.bound(0, 5);
        due("5 is the end", x.idle(1, true), 5);
        due("both are told", x.results(), 2);
        result(x, 0, 0, 0, 5, 2, SET);
        result(x, 1, 1, 0, 5, 1, SET);
        due("none is dropped", x.windows(), 3);
        x.bound(0, 4);
        due("6 is below the end and the lateness", x.idle(1, true), 6);
        due("none is dropped", x.windows(), 3);
        due("none is told again", x.results(), 2);
        x.bound(0, 3);
        due("7 is the end and the lateness", x.idle(1, true), 7);
        due("both are dropped", x.windows(), 1);
        due("none is told again", x.results(), 2);
        due("again", x.idle(1, true), 7);
        due("nothing more", x.windows() + x.results(), 3);
    }

    private static void allIdle() {
        about = "some partition is not idle";
        Streamloom x = single("sum fixed 5");
        feed(x, 0, 0, 20, 1);
        due("all are idle", x.idle(0, true), 20);
        feed(x, 0, 0, 30, 1);
        due("steps do not find it", x.watermark(), 20);
        feed(x, 1, 0, 40, 1);
        due("of whatever partition", x.watermark(), 20);
        due("one is not, of which something was read", x.idle(1, false), 40);
        due("all are idle", x.idle(1, true), 40);
        due("one is not, of which nothing was read", x.idle(2, false), 40);
        Streamloom y = planned("sum fixed 5");
        y.idle(0, true);
        y.idle(1, true);
        y.idle(2, true);
        feed(y, 0, 0, 20, 1);
        due("all are idle from the first", y.watermark(), -1);
        due("results", y.results(), 0);
        due("told with the first that is not", y.idle(0, false), 20);
        due("windows", y.windows(), 1);
    }

    private static void idleWithOpenResults() {
        about = "no step can be made, but idle() can";
        Streamloom x = single("sum fixed 1 late 99");
        x.bound(0, 99);
        for (int time = 0; time < 40; time++) {
            feed(x, 0, 0, time, 1);
        }
        feed(x, 0, 0, 99, 1);
        due("none at 0", x.results(), 0);
        x.bound(0, 50);
        due("40 windows end up to 49", x.idle(0, false), 49);
        due("results", x.results(), 40);
        x.event(0, 0, 99, 1);
        throwsDue("40 are open", STATE, () -> x.step(0));
        x.bound(0, 0);
        due("with 40 open", x.idle(0, false), 99);
        due("the end of the last is 100", x.results(), 40);
    }

    // ---- promise 9

    private static void rangesOfTheTable() {
        about = "key 0 to 7, time 0 to 999, value -99 to 99, of table()";
        for (int key : KEYS) {
            for (int time : TIMES) {
                for (int value : VALUES) {
                    Streamloom x = new Streamloom();
                    String call = "table(" + key + ", " + time + ", " + value + ")";
                    if (!within(key, 0, 7)) {
                        throwsDue(call, INDEX, () -> x.table(key, time, value));
                    } else if (!within(time, 0, 999) || !within(value, -99, 99)) {
                        throwsDue(call, ARGUMENT, () -> x.table(key, time, value));
                        due("it was not told", x.table(0, 0, 0), 1);
                    } else {
                        due(call, x.table(key, time, value), 1);
                    }
                }
            }
        }
    }

    private static void sixtyValues() {
        about = "IllegalStateException if 60 were told";
        Streamloom x = single("sum join fixed 5");
        for (int told = 1; told <= 60; told++) {
            due("table", x.table(0, 0, told), told);
        }
        throwsDue("the 61st", STATE, () -> x.table(0, 0, 61));
        throwsDue("the 61st, of another key", STATE, () -> x.table(7, 999, 61));
        throwsDue("the 61st, time 1000", ARGUMENT, () -> x.table(0, 1000, 61));
        throwsDue("the 61st, value 100", ARGUMENT, () -> x.table(0, 0, 100));
        throwsDue("the 61st, key 8, value 100", INDEX, () -> x.table(8, 0, 100));
        feed(x, 0, 0, 0, 1);
        due("the 60th holds", x.window(0, 3), 61);
        x.crash();
        throwsDue("behind a crash", STATE, () -> x.table(0, 0, 61));
        plan(x, "sum join fixed 5", false);
        throwsDue("behind a plan anew", STATE, () -> x.table(0, 0, 61));
    }

    private static Streamloom withTable(int[][] rows) {
        Streamloom x = planned("sum join session 1");
        for (int[] row : rows) {
            x.table(row[0], row[1], row[2]);
        }
        return x;
    }

    /** What the table has for a key as of a time, seen by an event of 0. */
    private static int asOf(int[][] rows, int key, int time) {
        Streamloom x = withTable(rows);
        feed(x, 0, key, time, 0);
        return x.window(0, 3);
    }

    private static void valuesAsOfTimes() {
        about = "the value that was told for the greatest time up to t, 0 if there is none";
        int[][] rows = {{2, 10, 5}, {2, 0, 3}, {2, 999, -99}, {2, 20, 99}};
        int[] times = {0, 1, 9, 10, 11, 19, 20, 21, 998, 999};
        int[] wanted = {3, 3, 3, 5, 5, 5, 99, 99, 99, -99};
        for (int i = 0; i < times.length; i++) {
            due("as of " + times[i], asOf(rows, 2, times[i]), wanted[i]);
        }
        int[][] one = {{2, 10, 5}};
        due("none up to 9", asOf(one, 2, 9), 0);
        due("one up to 10", asOf(one, 2, 10), 5);
        due("none up to 0", asOf(new int[][] {{2, 1, 5}}, 2, 0), 0);
        due("none at all", asOf(new int[0][], 2, 999), 0);
        due("a lesser time that was told later", asOf(new int[][] {{2, 10, 5}, {2, 9, 6}}, 2, 10), 5);
        due("a greater one that was told first", asOf(new int[][] {{2, 11, 5}, {2, 9, 6}}, 2, 10), 6);
        due("a value of 0 behind another one", asOf(new int[][] {{2, 9, 6}, {2, 10, 0}}, 2, 10), 0);
    }

    private static void valuesOfOneTime() {
        about = "of several that which was told last";
        int[][] rows = {{2, 10, 5}, {2, 10, 9}, {2, 10, 7}, {2, 4, 1}};
        due("ahead of them", asOf(rows, 2, 9), 1);
        due("at their time", asOf(rows, 2, 10), 7);
        due("behind them", asOf(rows, 2, 11), 7);
        int[][] atNought = {{2, 0, 5}, {2, 0, -9}};
        due("at 0", asOf(atNought, 2, 0), -9);
    }

    private static void valuesOfOtherKeys() {
        about = "it has for a key the value";
        int[][] rows = {{0, 10, 5}, {7, 10, 9}, {3, 20, 1}, {3, 0, 2}};
        due("of 0", asOf(rows, 0, 10), 5);
        due("of 1, that has none", asOf(rows, 1, 10), 0);
        due("of 3, whose other is greater", asOf(rows, 3, 19), 2);
        due("of 6, that has none", asOf(rows, 6, 999), 0);
        due("of 7", asOf(rows, 7, 10), 9);
    }

    private static void valuesToldBehindAStep() {
        about = "what the table has is added with the step";
        Streamloom x = single("sum join fixed 10");
        x.event(0, 0, 5, 1);
        x.table(0, 5, 10);
        x.step(0);
        due("told behind the event, ahead of the step", x.window(0, 3), 11);
        x.table(0, 5, 20);
        due("told behind the step", x.window(0, 3), 11);
        feed(x, 0, 0, 5, 1);
        due("for the next step", x.window(0, 3), 32);
        x.crash();
        x.step(0);
        due("read again by the table of now", x.window(0, 3), 21);
    }

    // ---- promise 11

    private static void watermarkAtFirst() {
        about = "the watermark is -1 at first";
        Streamloom x = new Streamloom();
        due("without a plan", x.watermark(), -1);
        plan(x, "sum fixed 1", false);
        due("with a plan", x.watermark(), -1);
        x.idle(1, true);
        x.idle(2, true);
        x.event(0, 0, 0, 1);
        due("with an event", x.watermark(), -1);
        x.step(0);
        due("0 is above -1", x.watermark(), 0);
        due("a window that ends at 1 is not told at 0", x.results(), 0);
        feed(x, 0, 0, 1, 1);
        due("it is told at 1", x.results(), 1);
        Streamloom y = single("sum fixed 1");
        y.bound(0, 1);
        feed(y, 0, 0, 0, 1);
        due("0 less 1 is -1", y.watermark(), -1);
        feed(y, 0, 0, 1, 1);
        due("1 less 1 is 0", y.watermark(), 0);
    }

    private static void watermarkOfSeveral() {
        about = "the least, over these partitions";
        for (int least = 0; least < 3; least++) {
            Streamloom x = planned("sum fixed 5");
            for (int partition = 0; partition < 3; partition++) {
                feed(x, partition, 0, partition == least ? 10 : 50, 1);
            }
            due("of " + least, x.watermark(), 10);
            feed(x, (least + 1) % 3, 0, 99, 1);
            due("another one's does not count", x.watermark(), 10);
            feed(x, least, 0, 49, 1);
            due("49 is the least", x.watermark(), 49);
            feed(x, least, 0, 50, 1);
            due("both are the least", x.watermark(), 50);
            feed(x, least, 0, 51, 1);
            due("another one is the least", x.watermark(), 50);
            due("the least is idle", x.idle((least + 2) % 3, true), 51);
            x.bound((least + 1) % 3, 48);
            due("less the bound: 51", x.idle(least, true), 51);
            x.bound((least + 1) % 3, 47);
            due("less the bound: 52", x.idle(least, true), 52);
        }
    }

    private static void watermarkOnlyWithReadOnes() {
        about = "from each partition that is not idle some event has been read";
        for (int last = 0; last < 3; last++) {
            Streamloom x = planned("sum fixed 5");
            feed(x, (last + 1) % 3, 0, 10, 1);
            due("two were not read", x.watermark(), -1);
            feed(x, (last + 2) % 3, 0, 10, 1);
            due("one was not read", x.watermark(), -1);
            x.event(last, 0, 10, 1);
            due("told is not read", x.idle((last + 1) % 3, false), -1);
            x.step(last);
            due("all were read", x.watermark(), 10);
        }
        Streamloom x = single("sum if > 5 fixed 5");
        feed(x, 0, 0, 10, 5);
        due("one that does not count was read, too", x.watermark(), 10);
        x.crash();
        due("behind a crash none was read", x.idle(0, false), -1);
    }

    private static void watermarkNeverFalls() {
        about = "it never falls";
        Streamloom x = single("sum fixed 5");
        x.bound(0, 5);
        feed(x, 0, 0, 30, 1);
        due("watermark", x.watermark(), 25);
        x.bound(0, 6);
        due("a greater bound", x.idle(0, false), 25);
        feed(x, 0, 0, 31, 1);
        due("the same", x.watermark(), 25);
        feed(x, 0, 0, 32, 1);
        due("one more", x.watermark(), 26);
        feed(x, 1, 0, 3, 1);
        due("a partition that is behind", x.idle(1, false), 26);
        feed(x, 1, 0, 26, 1);
        due("a partition that is there", x.watermark(), 26);
        x.bound(0, 0);
        feed(x, 1, 0, 27, 1);
        due("a partition that is one ahead", x.watermark(), 27);
    }

    private static void watermarkIsOfTheGreatestTime() {
        about = "the greatest time that was read there";
        Streamloom x = single("sum fixed 5");
        x.bound(0, 20);
        feed(x, 0, 0, 25, 1);
        feed(x, 0, 0, 24, 1);
        x.bound(0, 0);
        due("24 is not above 25", x.idle(0, false), 25);
        feed(x, 0, 0, 26, 1);
        due("26 is", x.watermark(), 26);
        feed(x, 0, 0, 999, 1);
        due("the greatest there is", x.watermark(), 999);
        plan(x, "sum fixed 5", false);
        x.event(1, 0, 7, 1);
        x.idle(0, true);
        x.idle(1, false);
        x.step(1);
        due("times of an older plan do not count", x.watermark(), 7);
    }

    private static void watermarkOfRefusedSteps() {
        about = "a step that is refused finds no watermark";
        Streamloom x = single("sum fixed 1 late 99");
        x.bound(0, 5);
        feed(x, 0, 0, 30, 1);
        x.bound(0, 0);
        throwsDue("no event", ELEMENT, () -> x.step(0));
        throwsDue("no event of another", ELEMENT, () -> x.step(1));
        throwsDue("partition 3", INDEX, () -> x.step(3));
        throwsDue("idle of partition 3", INDEX, () -> x.idle(3, true));
        due("watermark", x.watermark(), 25);
        due("idle() does", x.idle(0, false), 30);
    }

    // ---- promise 12

    private static void rangesOfRead() {
        about = "partition 0 to 2, of read()";
        Streamloom none = new Streamloom();
        Streamloom x = planned("sum fixed 5");
        feed(x, 0, 0, 0, 0);
        feed(x, 2, 0, 0, 0);
        feed(x, 2, 0, 0, 0);
        int[] read = {1, 0, 2};
        for (int partition : PARTITIONS) {
            if (within(partition, 0, 2)) {
                due("read " + partition, x.read(partition), read[partition]);
                due("read " + partition + " without a plan", none.read(partition), 0);
            } else {
                throwsDue("read " + partition, INDEX, () -> x.read(partition));
                throwsDue("read " + partition + " without a plan", INDEX, () -> none.read(partition));
            }
        }
    }
}
