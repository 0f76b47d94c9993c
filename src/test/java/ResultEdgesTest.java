/** The edges of promises 13 to 20: what is too late, windows, results and totals, both sides of each. */
public final class ResultEdgesTest extends LoomChecks {
    private static final int[] KEYS = {LEAST, -1, 0, 7, 8, MOST};

    public static void main(String[] args) {
        begin("ResultEdgesTest");
        countsOfTooLate();
        countsOfWindows();
        placesOfWindows();
        orderOfWindows();
        whatOfWindows();
        countsOfResults();
        placesOfResults();
        keysOfTotals();
        beginningsOfTotals();
        totalsByKinds();
        totalsByAllResults();
        totalAnewRefused();
        totalAnewOfWhatIsRead();
        totalAnewOfWhatCounted();
        totalAnewOfWhatWasNotTooLate();
        totalAnewByItsEnd();
        totalAnewOfNone();
        totalAnewWhereNoneBegins();
        totalAnewIsTheTotal();
        end();
    }

    // ---- promises 13 to 15

    private static void countsOfTooLate() {
        about = "how often an event was too late for a window, or, as a session, at all";
        Streamloom none = new Streamloom();
        due("without a plan", none.tooLate(), 0);
        String[] queries = {
            "sum fixed 8", "sum sliding 8 8", "sum sliding 8 4", "sum sliding 6 2", "sum sliding 8 2", "sum session 8"};
        int[] counts = {1, 1, 2, 3, 4, 1};
        for (int i = 0; i < queries.length; i++) {
            Streamloom x = single(queries[i]);
            due("at first", x.tooLate(), 0);
            feed(x, 0, 0, 100, 1);
            due("in time", x.tooLate(), 0);
            feed(x, 0, 0, 50, 1);
            due(queries[i], x.tooLate(), counts[i]);
            feed(x, 0, 0, 50, 1);
            due(queries[i] + " again", x.tooLate(), 2 * counts[i]);
            plan(x, queries[i], true);
            due("kept", x.tooLate(), 2 * counts[i]);
            x.crash();
            due("behind a crash", x.tooLate(), 0);
        }
    }

    private static void countsOfWindows() {
        about = "how many windows there are";
        due("without a plan", new Streamloom().windows(), 0);
        Streamloom x = single("sum sliding 8 2");
        due("at first", x.windows(), 0);
        feed(x, 0, 0, 1, 1);
        due("one", x.windows(), 1);
        feed(x, 0, 0, 1, 1);
        due("the same one", x.windows(), 1);
        feed(x, 0, 1, 1, 1);
        due("of another key", x.windows(), 2);
        feed(x, 0, 0, 7, 1);
        due("three more", x.windows(), 5);
        feed(x, 0, 0, 8, 1);
        due("two dropped, one more", x.windows(), 4);
        x.crash();
        due("behind a crash", x.windows(), 0);
    }

    private static Streamloom threeWindows() {
        Streamloom x = single("sum fixed 10 late 9");
        feed(x, 0, 5, 3, 1);
        feed(x, 0, 2, 4, 2);
        feed(x, 0, 5, 12, 4);
        return x;
    }

    private static void placesOfWindows() {
        about = "if there is no such window, if what is out of range";
        Streamloom none = new Streamloom();
        Streamloom empty = single("sum fixed 10");
        Streamloom x = threeWindows();
        int[] places = {LEAST, -1, 0, 2, 3, MOST};
        int[] whats = {LEAST, -1, 0, 4, 5, MOST};
        for (int place : places) {
            for (int what : whats) {
                String call = "window(" + place + ", " + what + ")";
                throwsDue(call + " without a plan", INDEX, () -> none.window(place, what));
                throwsDue(call + " of none", INDEX, () -> empty.window(place, what));
                if (place < 0 || place > 2) {
                    throwsDue(call, INDEX, () -> x.window(place, what));
                } else if (what < 0 || what > 4) {
                    throwsDue(call, ARGUMENT, () -> x.window(place, what));
                }
            }
        }
        window(x, 0, 2, 0, 10, 2, 1);
        window(x, 1, 5, 0, 10, 1, 1);
        window(x, 2, 5, 10, 20, 4, 0);
        feed(x, 0, 5, 19, 1);
        throwsDue("the second behind two that are dropped", INDEX, () -> x.window(1, 0));
        window(x, 0, 5, 10, 20, 5, 0);
    }

    private static void orderOfWindows() {
        about = "by rising keys, of one key by rising beginnings";
        Streamloom x = single("sum session 5");
        x.bound(0, 99);
        int[][] told = {{7, 0}, {0, 90}, {3, 50}, {7, 80}, {3, 40}, {0, 10}, {3, 60}, {1, 99}, {6, 0}};
        for (int[] event : told) {
            feed(x, 0, event[0], event[1], 1);
        }
        int[][] wanted = {{0, 10}, {0, 90}, {1, 99}, {3, 40}, {3, 50}, {3, 60}, {6, 0}, {7, 0}, {7, 80}};
        due("windows", x.windows(), wanted.length);
        for (int i = 0; i < wanted.length; i++) {
            window(x, i, wanted[i][0], wanted[i][1], wanted[i][1] + 5, 1, 0);
        }
        feed(x, 0, 3, 56, 1);
        window(x, 5, 3, 56, 65, 2, 0);
        feed(x, 0, 3, 52, 1);
        window(x, 4, 3, 50, 65, 4, 0);
        window(x, 5, 6, 0, 5, 1, 0);
    }

    private static void whatOfWindows() {
        about = "whether it has been told (1 or 0)";
        Streamloom x = single("sum fixed 10 late 9");
        feed(x, 0, 4, 9, -7);
        window(x, 0, 4, 0, 10, -7, 0);
        feed(x, 0, 5, 10, 1);
        window(x, 0, 4, 0, 10, -7, 1);
        window(x, 1, 5, 10, 20, 1, 0);
        feed(x, 0, 4, 9, -1);
        window(x, 0, 4, 0, 10, -8, 1);
    }

    // ---- promises 16 to 18

    private static void countsOfResults() {
        about = "how many results there are, committed or not";
        Streamloom none = new Streamloom();
        due("without a plan", none.results(), 0);
        due("committed without a plan", none.committed(), 0);
        Streamloom x = single("sum fixed 1");
        feed(x, 0, 0, 0, 1);
        due("none", x.results(), 0);
        feed(x, 0, 0, 1, 1);
        feed(x, 0, 0, 2, 1);
        due("two", x.results(), 2);
        due("none is committed", x.committed(), 0);
        x.barrier();
        due("nor by a barrier", x.committed(), 0);
        feed(x, 0, 0, 3, 1);
        x.complete(0);
        due("two are", x.committed(), 2);
        due("of three", x.results(), 3);
        x.crash();
        due("two stay", x.results(), 2);
        due("and are committed", x.committed(), 2);
    }

    private static void placesOfResults() {
        about = "if there is no such result, if what is out of range";
        Streamloom none = new Streamloom();
        Streamloom x = threeWindows();
        due("results", x.results(), 2);
        int[] places = {LEAST, -1, 0, 1, 2, MOST};
        int[] whats = {LEAST, -1, 0, 4, 5, MOST};
        for (int place : places) {
            for (int what : whats) {
                String call = "result(" + place + ", " + what + ")";
                throwsDue(call + " without a plan", INDEX, () -> none.result(place, what));
                if (place < 0 || place > 1) {
                    throwsDue(call, INDEX, () -> x.result(place, what));
                } else if (what < 0 || what > 4) {
                    throwsDue(call, ARGUMENT, () -> x.result(place, what));
                }
            }
        }
        result(x, 0, 2, 0, 10, 2, SET);
        result(x, 1, 5, 0, 10, 1, SET);
        x.barrier();
        x.complete(0);
        feed(x, 0, 5, 3, 1);
        result(x, 2, 5, 0, 10, 2, SET);
        x.crash();
        throwsDue("one that is gone", INDEX, () -> x.result(2, 0));
        result(x, 1, 5, 0, 10, 1, SET);
    }

    // ---- promise 19

    private static void keysOfTotals() {
        about = "key 0 to 7, of total()";
        Streamloom none = new Streamloom();
        Streamloom x = single("sum fixed 5 late 99");
        for (int key = 0; key < 8; key++) {
            feed(x, 0, key, 0, key + 1);
        }
        feed(x, 0, 0, 5, 1);
        for (int key : KEYS) {
            if (key < 0 || key > 7) {
                throwsDue("total of " + key, INDEX, () -> x.total(key, 0));
                throwsDue("total of " + key + " without a plan", INDEX, () -> none.total(key, 0));
            } else {
                due("total of " + key, x.total(key, 0), key + 1);
                due("total of " + key + " without a plan", none.total(key, 0), 0);
            }
        }
    }

    private static void beginningsOfTotals() {
        about = "begin: any number, of total()";
        Streamloom x = single("sum fixed 5");
        x.bound(0, 99);
        feed(x, 0, 0, 5, 3);
        feed(x, 0, 0, 10, 4);
        due("none of it was told", x.total(0, 5), 0);
        x.bound(0, 0);
        feed(x, 0, 1, 14, 1);
        due("one was told", x.total(0, 5), 3);
        due("one was not", x.total(0, 10), 0);
        int[] begins = {LEAST, -5, -1, 0, 4, 6, 999, 1000, MOST};
        for (int begin : begins) {
            due("at " + begin, x.total(0, begin), 0);
        }
        Streamloom session = single("sum session 5");
        feed(session, 0, 0, 7, 3);
        feed(session, 0, 1, 12, 1);
        due("of a session", session.total(0, 7), 3);
        due("beside it", session.total(0, 6) + session.total(0, 8), 0);
    }

    private static void totalsByKinds() {
        about = "SET makes it the value, ADD adds that, BACK takes it off";
        Streamloom x = single("sum fixed 5 late 99");
        feed(x, 0, 0, 0, 10);
        feed(x, 0, 7, 5, 0);
        due("SET", x.total(0, 0), 10);
        feed(x, 0, 0, 0, -3);
        due("SET again", x.total(0, 0), 7);
        plan(x, "sum fixed 5 late 99 diff", true);
        feed(x, 0, 0, 0, -9);
        due("ADD", x.total(0, 0), -2);
        plan(x, "sum fixed 5 late 99 back", true);
        feed(x, 0, 0, 0, 5);
        due("BACK and ADD", x.total(0, 0), 3);
        plan(x, "sum fixed 5 late 99", true);
        feed(x, 0, 0, 0, 1);
        due("SET behind them", x.total(0, 0), 4);
        Streamloom session = single("sum session 5 late 99");
        feed(session, 0, 0, 10, 4);
        feed(session, 0, 7, 15, 0);
        feed(session, 0, 0, 11, 1);
        due("BACK alone", session.total(0, 10), 0);
        result(session, session.results() - 1, 0, 10, 15, 4, BACK);
    }

    private static void totalsByAllResults() {
        about = "by all results";
        Streamloom x = single("sum fixed 5 late 99 diff");
        feed(x, 0, 0, 0, 1);
        feed(x, 0, 7, 5, 0);
        x.barrier();
        x.complete(0);
        feed(x, 0, 0, 0, 2);
        due("committed or not", x.total(0, 0), 3);
        x.barrier();
        feed(x, 0, 0, 0, 4);
        due("in doubt or not", x.total(0, 0), 7);
        x.crash();
        due("those that are gone do not count", x.total(0, 0), 1);
        plan(x, "sum fixed 5 late 99 diff", true);
        due("kept", x.total(0, 0), 1);
        plan(x, "sum fixed 5 late 99 diff", false);
        due("anew", x.total(0, 0), 0);
    }

    // ---- promise 20

    private static void totalAnewRefused() {
        about = "if there is no such key; if there is no plan, or one with sessions";
        Streamloom none = new Streamloom();
        Streamloom session = single("sum session 5");
        Streamloom fixed = single("sum fixed 5");
        Streamloom sliding = single("sum sliding 5 5");
        int[] begins = {LEAST, -1, 0, MOST};
        for (int key : KEYS) {
            for (int begin : begins) {
                String call = "totalAnew(" + key + ", " + begin + ")";
                if (key < 0 || key > 7) {
                    throwsDue(call + " without a plan", INDEX, () -> none.totalAnew(key, begin));
                    throwsDue(call + " with sessions", INDEX, () -> session.totalAnew(key, begin));
                    throwsDue(call, INDEX, () -> fixed.totalAnew(key, begin));
                } else {
                    throwsDue(call + " without a plan", STATE, () -> none.totalAnew(key, begin));
                    throwsDue(call + " with sessions", STATE, () -> session.totalAnew(key, begin));
                    due(call, fixed.totalAnew(key, begin), 0);
                    due(call + " of sliding windows", sliding.totalAnew(key, begin), 0);
                }
            }
        }
        plan(session, "sum fixed 5", false);
        due("another plan", session.totalAnew(0, 0), 0);
        plan(fixed, "sum session 5", false);
        throwsDue("another plan", STATE, () -> fixed.totalAnew(0, 0));
    }

    private static void totalAnewOfWhatIsRead() {
        about = "over all events that have been read";
        Streamloom x = planned("sum fixed 5");
        x.idle(1, true);
        x.idle(2, true);
        x.event(0, 0, 0, 1);
        x.event(1, 0, 1, 2);
        x.event(2, 0, 4, 4);
        x.event(2, 0, 4, 8);
        x.event(0, 7, 5, 0);
        x.step(1);
        x.step(0);
        x.step(2);
        due("its end is above the watermark", x.totalAnew(0, 0), 0);
        x.step(0);
        due("three of four were read", x.totalAnew(0, 0), 7);
        x.step(2);
        due("the fourth is too late", x.totalAnew(0, 0), 7);
        x.crash();
        due("none was read", x.totalAnew(0, 0), 0);
        x.step(0);
        x.step(2);
        x.step(2);
        x.step(0);
        due("others were read", x.totalAnew(0, 0), 13);
        plan(x, "sum fixed 5", false);
        due("none was read", x.totalAnew(0, 0), 0);
    }

    private static void totalAnewOfWhatCounted() {
        about = "by the query and the table as they were when they were read last";
        Streamloom x = single("sum if < 5 fixed 10 late 99");
        x.table(0, 0, 50);
        feed(x, 0, 0, 1, 4);
        feed(x, 0, 0, 1, 5);
        feed(x, 0, 7, 10, 4);
        due("5 does not count", x.totalAnew(0, 0), 4);
        plan(x, "sum if > 5 join fixed 10 late 99", true);
        due("as they were read", x.totalAnew(0, 0), 4);
        feed(x, 0, 0, 1, 5);
        feed(x, 0, 0, 1, 6);
        due("the next ones by the next query", x.totalAnew(0, 0), 60);
        x.table(0, 0, 20);
        due("by the table of then", x.totalAnew(0, 0), 60);
        due("as by the results", x.total(0, 0), 60);
        x.crash();
        for (int i = 0; i < 5; i++) {
            x.step(0);
        }
        due("the event that ends it does not count now", x.watermark(), 10);
        due("read last by the next query and table", x.totalAnew(0, 0), 26);
        due("as by the results", x.total(0, 0), 26);
        Streamloom count = single("count join fixed 5 late 9");
        count.table(0, 0, 50);
        feed(count, 0, 0, 1, -5);
        feed(count, 0, 0, 1, -5);
        feed(count, 0, 7, 5, 1);
        due("count", count.totalAnew(0, 0), 2);
    }

    private static void totalAnewOfWhatWasNotTooLate() {
        about = "and were not too late for the window of the key that begins there";
        Streamloom x = single("sum fixed 5 late 3");
        feed(x, 0, 7, 7, 0);
        feed(x, 0, 0, 0, 1);
        due("one below", x.totalAnew(0, 0), 1);
        feed(x, 0, 7, 8, 0);
        feed(x, 0, 0, 0, 2);
        due("at it", x.totalAnew(0, 0), 1);
        Streamloom y = single("sum sliding 8 4 late 3");
        feed(y, 0, 7, 11, 0);
        feed(y, 0, 0, 6, 1);
        feed(y, 0, 7, 15, 0);
        due("too late for one of two", y.totalAnew(0, 0), 0);
        due("and not for the other one", y.totalAnew(0, 4), 1);
        feed(y, 0, 0, 6, 2);
        due("too late for both", y.totalAnew(0, 4), 1);
        Streamloom z = single("sum fixed 5 late 9");
        feed(z, 0, 7, 8, 0);
        feed(z, 0, 0, 0, 1);
        plan(z, "sum fixed 5 late 3", true);
        due("by the lateness of then", z.totalAnew(0, 0), 1);
        feed(z, 0, 0, 0, 2);
        due("by the lateness of now", z.totalAnew(0, 0), 1);
        plan(z, "sum fixed 5 late 9", false);
        z.bound(0, 99);
        for (int i = 0; i < 3; i++) {
            z.step(0);
        }
        z.bound(0, 0);
        z.idle(0, false);
        due("read last ahead of the watermark", z.totalAnew(0, 0), 3);
    }

    private static void totalAnewByItsEnd() {
        about = "0 if its end is above the watermark";
        String[] queries = {"max fixed 5", "max sliding 5 5", "max fixed 5 late 99", "max sliding 20 5"};
        int[] sizes = {5, 5, 5, 20};
        for (int i = 0; i < queries.length; i++) {
            Streamloom x = single(queries[i]);
            feed(x, 0, 0, 4, -7);
            feed(x, 0, 7, sizes[i] - 1, 0);
            due("one below its end", x.totalAnew(0, 0), 0);
            feed(x, 0, 7, sizes[i], 0);
            due("at its end", x.totalAnew(0, 0), -7);
            feed(x, 0, 7, 999, 0);
            due("far above its end", x.totalAnew(0, 0), -7);
        }
        Streamloom x = single("sum fixed 1");
        feed(x, 0, 0, 998, 5);
        feed(x, 0, 0, 999, 6);
        due("the last that can be told", x.totalAnew(0, 998), 5);
        due("its end is 1000", x.totalAnew(0, 999), 0);
    }

    private static void totalAnewOfNone() {
        about = "0 if there are none of these events";
        Streamloom x = single("max if < 50 fixed 5");
        feed(x, 0, 0, 0, 60);
        feed(x, 0, 1, 0, -5);
        feed(x, 0, 1, 5, -6);
        feed(x, 0, 7, 20, 0);
        due("one that did not count", x.totalAnew(0, 0), 0);
        due("one of another key", x.totalAnew(2, 0), 0);
        due("one of this key", x.totalAnew(1, 0), -5);
        due("one of this key", x.totalAnew(1, 5), -6);
        due("none in this window", x.totalAnew(1, 10), 0);
        due("none in a window far off", x.totalAnew(1, 995), 0);
    }

    private static void totalAnewWhereNoneBegins() {
        about = "0 if no window can begin there";
        Streamloom x = single("count sliding 12 4 late 99");
        for (int time = 0; time < 12; time++) {
            feed(x, 0, 0, time, 1);
        }
        feed(x, 0, 7, 999, 0);
        int[] begins = {
            LEAST, LEAST + 4, -12, -8, -4, -1, 0, 1, 2, 3, 4, 5, 7, 8, 9, 11, 12, MOST - 11, MOST - 12, MOST - 3, MOST};
        int[] wanted = {0, 0, 0, 0, 0, 0, 12, 0, 0, 0, 8, 0, 0, 4, 0, 0, 0, 0, 0, 0, 0};
        for (int i = 0; i < begins.length; i++) {
            due("at " + begins[i], x.totalAnew(0, begins[i]), wanted[i]);
        }
        Streamloom z = single("count sliding 4 1 late 99");
        for (int time = 0; time < 4; time++) {
            feed(z, 0, 0, time, 1);
        }
        feed(z, 0, 7, 99, 0);
        int[] ofOne = {-4, -3, -2, -1, 0, 1, 2, 3, 4};
        int[] counts = {0, 0, 0, 0, 4, 3, 2, 1, 0};
        for (int i = 0; i < ofOne.length; i++) {
            due("with a slide of 1 at " + ofOne[i], z.totalAnew(0, ofOne[i]), counts[i]);
        }
        Streamloom y = single("count fixed 1");
        feed(y, 0, 0, 0, 1);
        feed(y, 0, 0, 1, 1);
        int[] any = {LEAST, -1, 0, 1, MOST - 1, MOST};
        for (int begin : any) {
            due("of 1 at " + begin, y.totalAnew(0, begin), begin == 0 ? 1 : 0);
        }
    }

    private static void totalAnewIsTheTotal() {
        about = "returns the same, reckoned from nothing";
        String[] folds = {"sum", "count", "max"};
        String[] shapes = {"fixed 6", "sliding 8 2", "sliding 9 3"};
        String[] modes = {"anew", "diff", "back"};
        int[] times = {3, 0, 7, 5, 12, 9, 4, 11, 14, 6, 16, 8, 10, 19, 13, 30};
        for (String fold : folds) {
            for (String shape : shapes) {
                for (String mode : modes) {
                    Streamloom x = single(fold + " if < 9 join " + shape + " late 3 " + mode);
                    x.table(0, 5, -20);
                    x.table(0, 10, 30);
                    for (int time : times) {
                        if (x.results() > 20) {
                            x.barrier();
                        }
                        feed(x, 0, time % 2, time, time % 11 - 2);
                    }
                    for (int begin = 0; begin < 20; begin++) {
                        due(fold + shape + mode + " of 0 at " + begin, x.totalAnew(0, begin), x.total(0, begin));
                        due(fold + shape + mode + " of 1 at " + begin, x.totalAnew(1, begin), x.total(1, begin));
                    }
                }
            }
        }
    }
}
