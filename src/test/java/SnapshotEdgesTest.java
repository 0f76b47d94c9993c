/** The edges of promises 21 to 26: snapshots, crashes and workers, both sides of each. */
public final class SnapshotEdgesTest extends LoomChecks {
    public static void main(String[] args) {
        begin("SnapshotEdgesTest");
        barriersWithoutAPlan();
        fiveInDoubt();
        numbersOfSnapshots();
        barriersWithOpenResults();
        numbersThatAreNotInDoubt();
        completedOneByOne();
        thoseAheadAreGone();
        howManyAreCommitted();
        howManyAreInDoubt();
        crashesWithoutAPlan();
        crashToTheBeginning();
        crashToTheLatestCompleted();
        crashOfASnapshotNotCompleted();
        crashKeepsTheGreatestTimes();
        crashKeepsWhatIsTold();
        crashTwice();
        crashAndGoOn();
        crashLeavesWhatIsOutside();
        crashUnderAKeptPlan();
        crashOfSessions();
        snapshotsAreApart();
        snapshotsOfManyWindows();
        committedStay();
        rangesOfWorkers();
        keysOfWorkers();
        movedWindows();
        rangesOfLoad();
        workersStay();
        end();
    }

    // ---- promise 21

    private static void barriersWithoutAPlan() {
        about = "IllegalStateException if there is no plan, of barrier()";
        Streamloom x = new Streamloom();
        throwsDue("none", STATE, () -> x.barrier());
        type(x, "sum fixed 5");
        throwsDue("none, but a query", STATE, () -> x.barrier());
        x.plan(false);
        due("the first, ahead of anything", x.barrier(), 0);
    }

    private static void fiveInDoubt() {
        about = "at most 5 are in doubt";
        Streamloom x = planned("sum fixed 5");
        for (int i = 0; i < 4; i++) {
            due("barrier", x.barrier(), i);
            due("in doubt", x.doubtful(), i + 1);
        }
        due("the fifth", x.barrier(), 4);
        throwsDue("the sixth", STATE, () -> x.barrier());
        due("in doubt", x.doubtful(), 5);
        due("the oldest is completed", x.complete(0), 0);
        due("one more, and no number is lost", x.barrier(), 5);
        throwsDue("one too many", STATE, () -> x.barrier());
        due("the latest is completed", x.complete(5), 0);
        for (int i = 6; i < 11; i++) {
            due("five more", x.barrier(), i);
        }
        throwsDue("one too many", STATE, () -> x.barrier());
        x.crash();
        due("behind a crash", x.barrier(), 11);
        for (int i = 12; i < 16; i++) {
            due("four more", x.barrier(), i);
        }
        throwsDue("one too many", STATE, () -> x.barrier());
        plan(x, "sum fixed 5", true);
        throwsDue("kept", STATE, () -> x.barrier());
        plan(x, "sum fixed 5", false);
        due("anew", x.barrier(), 0);
    }

    private static void numbersOfSnapshots() {
        about = "numbered from 0, all that were taken since a query was planned anew";
        Streamloom x = planned("sum fixed 5");
        due("the first", x.barrier(), 0);
        x.complete(0);
        due("behind one that is completed", x.barrier(), 1);
        x.crash();
        due("behind one that is gone by a crash", x.barrier(), 2);
        due("and one more", x.barrier(), 3);
        x.complete(3);
        due("behind one that is gone", x.barrier(), 4);
        plan(x, "sum fixed 5", true);
        due("behind a kept plan", x.barrier(), 5);
        throwsDue("a plan that is refused", ARGUMENT, () -> x.plan(false));
        due("behind it", x.barrier(), 6);
        plan(x, "sum fixed 5", false);
        due("behind a plan anew", x.barrier(), 0);
    }

    private static void barriersWithOpenResults() {
        about = "a barrier passes with 30 open results";
        Streamloom x = single("sum fixed 1");
        for (int time = 0; time <= 30; time++) {
            feed(x, 0, 0, time, 1);
        }
        x.event(0, 0, 31, 1);
        throwsDue("30 are open", STATE, () -> x.step(0));
        due("barrier", x.barrier(), 0);
        due("complete", x.complete(0), 30);
        due("step", x.step(0), 1);
    }

    // ---- promise 22

    private static void numbersThatAreNotInDoubt() {
        about = "IndexOutOfBoundsException if there is no such snapshot in doubt";
        int[] numbers = {LEAST, -2, -1, 0, 1, 5, MOST};
        Streamloom none = new Streamloom();
        Streamloom x = planned("sum fixed 5");
        for (int number : numbers) {
            throwsDue("complete(" + number + ") without a plan", INDEX, () -> none.complete(number));
            throwsDue("complete(" + number + ") of none", INDEX, () -> x.complete(number));
        }
        x.barrier();
        x.barrier();
        x.barrier();
        int[] others = {LEAST, -1, 3, MOST};
        for (int number : others) {
            throwsDue("complete(" + number + ") of 0 to 2", INDEX, () -> x.complete(number));
        }
        due("the one in the midst", x.complete(1), 0);
        throwsDue("one that is gone", INDEX, () -> x.complete(0));
        throwsDue("one that is completed", INDEX, () -> x.complete(1));
        throwsDue("one that was not taken", INDEX, () -> x.complete(3));
        due("the last", x.complete(2), 0);
        throwsDue("the last again", INDEX, () -> x.complete(2));
        due("barrier", x.barrier(), 3);
        x.crash();
        throwsDue("one that a crash took", INDEX, () -> x.complete(3));
        due("barrier", x.barrier(), 4);
        throwsDue("one that a crash took", INDEX, () -> x.complete(3));
        plan(x, "sum fixed 5", false);
        throwsDue("one that a plan took", INDEX, () -> x.complete(4));
        due("barrier", x.barrier(), 0);
        throwsDue("one that a plan took", INDEX, () -> x.complete(4));
        due("the first again", x.complete(0), 0);
    }

    /** A barrier behind each of some results: behind none the first. */
    private static Streamloom taken(int barriers) {
        Streamloom x = single("sum fixed 1");
        feed(x, 0, 0, 0, 1);
        for (int i = 0; i < barriers; i++) {
            due("barrier", x.barrier(), i);
            due("one result", feed(x, 0, 0, i + 1, 1), 1);
        }
        return x;
    }

    private static void completedOneByOne() {
        about = "to complete a snapshot is to commit the results up to it";
        Streamloom x = taken(5);
        due("behind no result", x.complete(0), 0);
        due("committed", x.committed(), 0);
        for (int i = 1; i < 5; i++) {
            due("one more", x.complete(i), 1);
            due("committed", x.committed(), i);
            due("in doubt", x.doubtful(), 4 - i);
        }
        due("results", x.results(), 5);
    }

    private static void thoseAheadAreGone() {
        about = "those in doubt that were taken ahead of it are gone";
        for (int completed = 0; completed < 5; completed++) {
            Streamloom x = taken(5);
            due("complete(" + completed + ")", x.complete(completed), completed);
            due("those behind it are in doubt", x.doubtful(), 4 - completed);
            for (int i = 0; i <= completed; i++) {
                int gone = i;
                throwsDue("complete(" + gone + ") behind it", INDEX, () -> x.complete(gone));
            }
            for (int i = completed + 1; i < 5; i++) {
                due("complete(" + i + ") behind it", x.complete(i), 1);
            }
            due("none in doubt", x.doubtful(), 0);
        }
    }

    private static void howManyAreCommitted() {
        about = "returns how many results are committed by that";
        Streamloom x = taken(4);
        due("one of one", x.complete(1), 1);
        due("two more of three", x.complete(3), 2);
        due("committed", x.committed(), 3);
        due("barrier", x.barrier(), 4);
        due("barrier", x.barrier(), 5);
        due("one more of four", x.complete(4), 1);
        due("none more", x.complete(5), 0);
        due("committed", x.committed(), 4);
        due("results", x.results(), 4);
        due("gone", x.crash(), 0);
    }

    // ---- promise 23

    private static void howManyAreInDoubt() {
        about = "how many snapshots are in doubt";
        due("without a plan", new Streamloom().doubtful(), 0);
        Streamloom x = planned("sum fixed 5");
        for (int i = 0; i <= 5; i++) {
            due("in doubt", x.doubtful(), i);
            if (i < 5) {
                x.barrier();
            }
        }
        plan(x, "sum fixed 5", true);
        due("kept", x.doubtful(), 5);
        x.complete(1);
        due("two less", x.doubtful(), 3);
        x.crash();
        due("behind a crash", x.doubtful(), 0);
        x.barrier();
        plan(x, "sum fixed 5", false);
        due("anew", x.doubtful(), 0);
    }

    // ---- promise 24

    private static void crashesWithoutAPlan() {
        about = "IllegalStateException if there is no plan, of crash()";
        Streamloom x = new Streamloom();
        throwsDue("none", STATE, () -> x.crash());
        x.event(0, 0, 0, 0);
        type(x, "sum fixed 5");
        throwsDue("none, but a query", STATE, () -> x.crash());
        x.plan(false);
        due("with a plan", x.crash(), 0);
        due("again", x.crash(), 0);
        due("watermark", x.watermark(), -1);
    }

    private static void crashToTheBeginning() {
        about = "at the beginning of the plan if there is none";
        Streamloom x = single("sum fixed 5 late 2");
        String atFirst = lookAtState(x);
        feed(x, 0, 0, 3, 1);
        feed(x, 0, 0, 12, 1);
        feed(x, 0, 0, 4, 1);
        x.barrier();
        due("results", x.results(), 1);
        due("gone", x.crash(), 1);
        due("state", lookAtState(x), atFirst);
        due("results", x.results(), 0);
        due("committed", x.committed(), 0);
        due("in doubt", x.doubtful(), 0);
        due("the events are read again", x.step(0), 0);
        due("watermark", x.watermark(), 3);
        window(x, 0, 0, 0, 5, 1, 0);
        due("as before", x.step(0), 1);
        result(x, 0, 0, 0, 5, 1, SET);
        due("as before", x.step(0) + x.tooLate(), 1);
    }

    private static Streamloom eventful(int steps) {
        Streamloom x = single("sum if < 90 join sliding 6 3 late 4 back");
        x.table(1, 0, 10);
        x.bound(0, 1);
        int[] times = {2, 7, 5, 12, 3, 14, 13, 20, 1, 22};
        for (int time : times) {
            x.event(0, time % 3, time, time);
        }
        for (int i = 0; i < steps; i++) {
            x.step(0);
        }
        return x;
    }

    private static void crashToTheLatestCompleted() {
        about = "all is as it was at the latest snapshot that was completed";
        for (int at = 0; at <= 10; at++) {
            Streamloom x = eventful(at);
            String state = lookAtState(x);
            String results = lookAtResults(x, 0);
            int count = x.results();
            due("barrier", x.barrier(), 0);
            for (int i = at; i < 10 && x.results() - count < 30; i++) {
                x.step(0);
            }
            due("complete", x.complete(0), count);
            int told = x.results();
            due("gone", x.crash(), told - count);
            due("state at " + at, lookAtState(x), state);
            due("results at " + at, lookAtResults(x, 0), results);
            due("committed at " + at, x.committed(), count);
        }
    }

    private static void crashOfASnapshotNotCompleted() {
        about = "results that are not committed, and snapshots in doubt, are gone";
        Streamloom x = eventful(4);
        x.barrier();
        x.complete(0);
        String state = lookAtState(x);
        int committed = x.committed();
        x.step(0);
        x.barrier();
        x.step(0);
        x.barrier();
        x.step(0);
        int told = x.results();
        due("gone", x.crash(), told - committed);
        due("state", lookAtState(x), state);
        due("results", x.results(), committed);
        due("in doubt", x.doubtful(), 0);
        throwsDue("one in doubt", INDEX, () -> x.complete(1));
        throwsDue("another one", INDEX, () -> x.complete(2));
    }

    private static void crashKeepsTheGreatestTimes() {
        about = "the greatest times, the watermark";
        Streamloom x = single("sum fixed 5");
        x.bound(0, 50);
        feed(x, 0, 0, 60, 1);
        x.barrier();
        x.complete(0);
        feed(x, 0, 0, 80, 1);
        due("watermark", x.watermark(), 30);
        x.crash();
        due("watermark of the snapshot", x.watermark(), 10);
        x.bound(0, 0);
        due("the greatest time of the snapshot", x.idle(0, false), 60);
        x.crash();
        due("it is not found by the crash", x.watermark(), 10);
        x.bound(0, 49);
        due("but then", x.idle(0, false), 11);
    }

    private static void crashKeepsWhatIsTold() {
        about = "all windows, as they had been told";
        String[] modes = {"anew", "diff", "back"};
        int[] counts = {1, 1, 2};
        int[] values = {7, 4, 7};
        for (int i = 0; i < modes.length; i++) {
            Streamloom x = single("sum fixed 5 late 50 " + modes[i]);
            feed(x, 0, 0, 0, 3);
            x.barrier();
            feed(x, 0, 1, 5, 0);
            x.barrier();
            x.complete(1);
            feed(x, 0, 0, 0, 4);
            x.crash();
            window(x, 0, 0, 0, 5, 3, 1);
            due("told again", x.step(0), counts[i]);
            result(x, x.results() - 1, 0, 0, 5, values[i], modes[i].equals("anew") ? SET : ADD);
            due("total", x.total(0, 0), 7);
            Streamloom y = single("sum fixed 5 late 50 " + modes[i]);
            feed(y, 0, 0, 0, 3);
            y.barrier();
            y.complete(0);
            feed(y, 0, 1, 5, 0);
            y.crash();
            window(y, 0, 0, 0, 5, 3, 0);
            due("told for the first time", y.step(0), 1);
            result(y, 0, 0, 0, 5, 3, modes[i].equals("anew") ? SET : ADD);
        }
    }

    private static void crashTwice() {
        about = "a crash behind a crash";
        Streamloom x = eventful(5);
        x.barrier();
        x.complete(0);
        String state = lookAtState(x);
        x.step(0);
        x.crash();
        due("nothing is gone", x.crash(), 0);
        due("state", lookAtState(x), state);
        x.step(0);
        x.crash();
        due("state", lookAtState(x), state);
    }

    private static void crashAndGoOn() {
        about = "and begin again";
        for (int at = 0; at <= 10; at += 2) {
            Streamloom x = eventful(at);
            x.barrier();
            x.complete(0);
            x.barrier();
            Streamloom y = eventful(at);
            y.barrier();
            y.complete(0);
            y.barrier();
            for (int i = at; i < Math.min(10, at + 4); i++) {
                y.step(0);
            }
            y.crash();
            x.crash();
            for (int i = at; i < 10; i++) {
                x.barrier();
                y.barrier();
                due("step", y.step(0), x.step(0));
                x.complete(2 + i - at);
                y.complete(2 + i - at);
            }
            due("state", lookAtState(y), lookAtState(x));
            int first = Math.max(0, x.results() - 10);
            due("results", lookAtResults(y, first), lookAtResults(x, first));
        }
    }

    private static void crashLeavesWhatIsOutside() {
        about = "events, tables, bounds, idle ones, workers and the plan stay";
        Streamloom x = planned("sum fixed 5");
        x.barrier();
        x.complete(0);
        x.event(0, 0, 3, 1);
        x.event(0, 4, 9, 1);
        x.event(1, 0, 3, 1);
        x.table(0, 0, 50);
        x.bound(0, 2);
        x.idle(1, true);
        x.idle(2, true);
        x.workers(2);
        plan(x, "sum join fixed 5 diff", true);
        x.step(0);
        due("crash", x.crash(), 0);
        due("events, the table and the plan", x.step(0), 0);
        window(x, 0, 0, 0, 5, 51, 0);
        due("bounds and idle ones", x.watermark(), 1);
        due("the plan's mode", x.step(0), 1);
        result(x, 0, 0, 0, 5, 51, ADD);
        due("workers", x.load(1), 1);
        due("bounds", x.bound(0, 2), 2);
        due("events", x.event(1, 0, 0, 0), 2);
        due("the table", x.table(0, 0, 0), 2);
        due("text", x.wipe(), 0);
    }

    private static void crashUnderAKeptPlan() {
        about = "a kept plan is not the beginning";
        Streamloom x = single("sum fixed 5 late 50");
        feed(x, 0, 0, 0, 1);
        x.barrier();
        x.complete(0);
        feed(x, 0, 7, 5, 0);
        plan(x, "sum fixed 5 late 3 back", true);
        due("gone", x.crash(), 1);
        due("to the snapshot", x.read(0), 1);
        due("the kept plan stays", plan(x, "sum fixed 5 late 3", true), 1);
        throwsDue("and not the one of the snapshot", STATE, () -> plan(x, "sum fixed 5 late 50", true));
        Streamloom y = single("sum fixed 5");
        feed(y, 0, 0, 0, 1);
        plan(y, "sum fixed 5 diff", true);
        feed(y, 0, 0, 1, 1);
        y.crash();
        due("to the beginning of the plan anew", y.read(0), 0);
        due("windows", y.windows(), 0);
    }

    private static void crashOfSessions() {
        about = "sessions come back as they were";
        Streamloom x = single("sum if < 90 session 5 late 50 back");
        feed(x, 0, 0, 10, 1);
        feed(x, 0, 0, 18, 2);
        feed(x, 0, 7, 23, 99);
        x.barrier();
        x.complete(0);
        String state = lookAtState(x);
        due("both are taken back", feed(x, 0, 0, 14, 4), 3);
        due("windows", x.windows(), 1);
        due("gone", x.crash(), 3);
        due("state", lookAtState(x), state);
        due("both are taken back again", x.step(0), 3);
        result(x, 2, 0, 10, 15, 1, BACK);
        result(x, 3, 0, 18, 23, 2, BACK);
        result(x, 4, 0, 10, 23, 7, ADD);
    }

    private static void snapshotsAreApart() {
        about = "a snapshot is what was when it was taken";
        for (int completed = 0; completed < 4; completed++) {
            Streamloom x = eventful(2);
            String[] states = new String[4];
            for (int i = 0; i < 4; i++) {
                states[i] = lookAtState(x);
                x.barrier();
                x.step(0);
                x.step(0);
            }
            x.complete(completed);
            x.barrier();
            x.crash();
            due("state of " + completed, lookAtState(x), states[completed]);
            x.step(0);
            x.barrier();
            String state = lookAtState(x);
            x.step(0);
            x.complete(5);
            x.crash();
            due("state of the next one", lookAtState(x), state);
        }
    }

    private static void snapshotsOfManyWindows() {
        about = "all windows, however many";
        for (int count = 0; count <= 100; count++) {
            Streamloom x = single("sum fixed 1");
            x.bound(0, 99);
            for (int time = 0; time < count; time++) {
                feed(x, 0, time % 8, time, time);
            }
            x.barrier();
            x.complete(0);
            feed(x, 0, 0, 999, 1);
            due("windows", x.windows(), 1);
            due("gone", x.crash(), count);
            due("they come back", x.windows(), count);
            if (count > 0) {
                window(x, 0, 0, 0, 1, 0, 0);
                due("the sum of the last", x.window(count - 1, 3), x.window(count - 1, 1));
            }
            due("they are told again", x.step(0), count);
        }
    }

    private static void committedStay() {
        about = "committed results stay, until a query is planned anew";
        Streamloom x = taken(3);
        String results = lookAtResults(x, 0);
        x.barrier();
        x.complete(3);
        x.crash();
        due("behind a crash", lookAtResults(x, 0), results);
        plan(x, "sum fixed 1 diff", true);
        due("kept", lookAtResults(x, 0), results);
        x.crash();
        due("kept, behind a crash", lookAtResults(x, 0), results);
        due("committed", x.committed(), 3);
        throwsDue("a plan that is refused", ARGUMENT, () -> x.plan(false));
        due("committed", x.committed(), 3);
        plan(x, "sum fixed 1 diff", false);
        due("anew", x.results(), 0);
        due("anew", x.committed(), 0);
    }

    // ---- promises 25 and 26

    private static void rangesOfWorkers() {
        about = "workers: 1 to 4";
        int[] counts = {LEAST, -1, 0, 1, 2, 3, 4, 5, MOST};
        for (int count : counts) {
            Streamloom x = new Streamloom();
            if (count < 1 || count > 4) {
                throwsDue("workers(" + count + ")", ARGUMENT, () -> x.workers(count));
                due("one stays", x.load(0), 0);
                throwsDue("one stays", INDEX, () -> x.load(1));
            } else {
                due("workers(" + count + ")", x.workers(count), 0);
                due("the last", x.load(count - 1), 0);
                throwsDue("one too many", INDEX, () -> x.load(count));
                throwsDue("then workers(5)", ARGUMENT, () -> x.workers(5));
                throwsDue("then workers(0)", ARGUMENT, () -> x.workers(0));
                due("they stay", x.load(count - 1), 0);
                throwsDue("they stay", INDEX, () -> x.load(count));
            }
        }
    }

    private static final int[][] WORKER_OF = {
        {0, 0, 0, 0, 0, 0, 0, 0}, {0, 0, 0, 0, 1, 1, 1, 1}, {0, 0, 0, 1, 1, 1, 2, 2}, {0, 0, 1, 1, 2, 2, 3, 3}};

    private static void keysOfWorkers() {
        about = "the key times the number of workers, divided by 8, rounded down";
        for (int key = 0; key < 8; key++) {
            Streamloom x = single("sum fixed 5");
            feed(x, 0, key, 0, 1);
            for (int count = 1; count <= 4; count++) {
                x.workers(count);
                for (int worker = 0; worker < count; worker++) {
                    due("key " + key + " with worker " + worker + " of " + count, x.load(worker),
                            WORKER_OF[count - 1][key] == worker ? 1 : 0);
                }
            }
        }
    }

    private static void movedWindows() {
        about = "how many windows come to another worker by that";
        for (int key = 0; key < 8; key++) {
            for (int before = 1; before <= 4; before++) {
                for (int count = 1; count <= 4; count++) {
                    Streamloom x = single("sum sliding 4 2");
                    feed(x, 0, key, 3, 1);
                    due("windows", x.windows(), 2);
                    x.workers(before);
                    boolean moves = WORKER_OF[before - 1][key] != WORKER_OF[count - 1][key];
                    due("of key " + key + " from " + before + " to " + count, x.workers(count), moves ? 2 : 0);
                    due("then to the same", x.workers(count), 0);
                    throwsDue("then to 5", ARGUMENT, () -> x.workers(5));
                    due("then back", x.workers(before), moves ? 2 : 0);
                    due("the windows stay", x.windows(), 2);
                }
            }
        }
    }

    private static void rangesOfLoad() {
        about = "worker: 0 to the number of workers, less 1";
        int[] workers = {LEAST, -1, 0, 1, 2, 3, 4, MOST};
        for (int count = 1; count <= 4; count++) {
            Streamloom x = single("sum fixed 5");
            x.workers(count);
            feed(x, 0, 0, 0, 1);
            int most = count - 1;
            for (int worker : workers) {
                if (worker < 0 || worker > most) {
                    throwsDue("load(" + worker + ") of " + count, INDEX, () -> x.load(worker));
                } else {
                    due("load(" + worker + ") of " + count, x.load(worker), worker == 0 ? 1 : 0);
                }
            }
        }
    }

    private static void workersStay() {
        about = "windows move with their keys";
        Streamloom x = single("sum fixed 5");
        x.workers(4);
        feed(x, 0, 7, 0, 1);
        feed(x, 0, 6, 4, 1);
        feed(x, 0, 0, 4, 1);
        due("windows that come later", x.load(3), 2);
        x.barrier();
        x.complete(0);
        feed(x, 0, 7, 5, 1);
        due("those that are dropped do not count", x.load(3), 1);
        due("nor move", x.workers(1), 1);
        x.crash();
        due("those that come back are with the worker of now", x.load(0), 3);
        throwsDue("and not with that of then", INDEX, () -> x.load(3));
        due("they move", x.workers(4), 2);
        plan(x, "sum fixed 5", true);
        due("kept", x.load(3), 2);
        plan(x, "sum fixed 5", false);
        due("anew", x.load(3), 0);
        due("none moves", x.workers(1), 0);
    }
}
