/** A test for each promise, with answers worked out by hand from the document. */
public final class PromiseTest extends LoomChecks {
    public static void main(String[] args) {
        begin("PromiseTest");
        constants();
        promise1();
        promise2();
        promise3();
        promise4();
        promise5();
        promise5Kept();
        promise6();
        promise7();
        promise8();
        promise9();
        promise10Order();
        promise10Filter();
        promise10Join();
        promise10Fixed();
        promise10Sliding();
        promise10Session();
        promise10Modes();
        promise10Telling();
        promise11();
        promise12();
        promise13();
        promise14And15();
        promise16To18();
        promise19();
        promise20();
        promise21();
        promise22();
        promise23();
        promise24();
        promise25();
        promise26();
        end();
    }

    // ---- the promises

    private static void constants() {
        about = "constants";
        due("NONE", Streamloom.NONE, -1);
        due("SET", Streamloom.SET, 0);
        due("ADD", Streamloom.ADD, 1);
        due("BACK", Streamloom.BACK, 2);
    }

    private static void promise1() {
        about = "promise 1";
        Streamloom x = new Streamloom();
        due("fault", x.fault(), 0);
        due("watermark", x.watermark(), -1);
        due("tooLate", x.tooLate(), 0);
        due("windows", x.windows(), 0);
        due("results", x.results(), 0);
        due("committed", x.committed(), 0);
        due("doubtful", x.doubtful(), 0);
        for (int partition = 0; partition < 3; partition++) {
            due("read", x.read(partition), 0);
            due("bound", x.bound(partition, 0), 0);
        }
        due("total", x.total(7, 0), 0);
        due("load", x.load(0), 0);
        throwsDue("load", INDEX, () -> x.load(1));
        throwsDue("step", STATE, () -> x.step(0));
        due("table", x.table(0, 0, 0), 1);
        due("event", x.event(0, 0, 0, 0), 1);
    }

    private static void promise2() {
        about = "promise 2";
        Streamloom x = new Streamloom();
        throwsDue("31", ARGUMENT, () -> x.type((char) 31));
        throwsDue("127", ARGUMENT, () -> x.type((char) 127));
        throwsDue("65535", ARGUMENT, () -> x.type((char) 65535));
        due("32", x.type((char) 32), 1);
        due("126", x.type((char) 126), 2);
        for (int length = 3; length <= 60; length++) {
            due("type", x.type('a'), length);
        }
        throwsDue("the 61st", STATE, () -> x.type('a'));
        throwsDue("the 61st, out of range", ARGUMENT, () -> x.type((char) 127));
        due("wipe", x.wipe(), 60);
        due("type", x.type('a'), 1);
    }

    private static void promise3() {
        about = "promise 3";
        Streamloom x = new Streamloom();
        due("of nothing", x.wipe(), 0);
        type(x, "sum fixed 5");
        due("of a query", x.wipe(), 11);
        due("again", x.wipe(), 0);
        due("fault", x.fault(), 0);
    }

    private static void promise4() {
        about = "promise 4";
        String[] whole = {
            "sum fixed 5", "count fixed 99", "max fixed 1", "sum session 10", "sum sliding 8 4",
            "sum sliding 4 8", "sum if < 5 fixed 5", "sum if = 0 fixed 5", "sum if > -0 fixed 5",
            "sum if < -99 join fixed 5", "sum join session 3", "sum fixed 5 late 0", "sum fixed 5 late 99",
            "max if > 9 session 5", "max if > 9 sliding 9 9", "sum fixed 5 anew", "sum fixed 5 diff",
            "sum fixed 5 back", "sum fixed 5 late 7 back",
            "sum   if  =  -1   join  sliding  9   3  late  1  diff   ", "sum fixed 5 ", "sum fixed 5 late 0 "};
        for (String text : whole) {
            due("'" + text + "'", faultOf(text), -1);
        }
        String[] tooShort = {
            "", "s", "su", "sum", "sum ", "sum i", "sum if", "sum if ", "sum if <", "sum if < ", "sum if < -",
            "sum if < 1", "sum j", "sum join", "sum f", "sum fixed", "sum fixed ", "sum s", "sum se", "sum slid",
            "sum sliding 4", "sum sliding 4 ", "sum fixed 5 l", "sum fixed 5 late", "sum fixed 5 late ",
            "sum fixed 5 d", "sum fixed 5 ane", "max", "m", "c", "sum if < 0 "};
        for (String text : tooShort) {
            due("'" + text + "'", faultOf(text), text.length());
        }
        Object[][] wrong = {
            {" sum fixed 5", 0}, {"x", 0}, {"SUM", 0}, {"sux", 2}, {"sumx", 3}, {"sum5", 3}, {"su m", 2},
            {"sum x", 4}, {"sum fixed5", 9}, {"sum fixed 0", 10}, {"sum fixed -1", 10}, {"sum fixed 123", 12},
            {"sum fixed 05", 10}, {"sum fixed x", 10}, {"sum fixed 5x", 11}, {"sum fixed 12x", 12},
            {"sum session 0", 12}, {"sum sliding 4 0", 14}, {"sum sliding 0 4", 12}, {"sum sliding 4 x", 14},
            {"sum sliding 4 late", 14}, {"sum fixed 5 5", 12}, {"sum session 5 5", 14}, {"sum sliding 4 4 4", 16},
            {"sum late 3 fixed 5", 4}, {"sum anew fixed 5", 4}, {"sum if fixed 5", 7}, {"sum if << 5", 8},
            {"sum if <5", 8}, {"sum if < --5", 10}, {"sum if < - 5", 10}, {"sum if < 05", 10}, {"sum if < -05", 11},
            {"sum if < 100", 11}, {"sum if < 5 if", 11}, {"sum if < +5", 9}, {"sum if < 5join", 10},
            {"sum if < 5 late", 11}, {"sum join if < 5", 9}, {"sum join join", 9}, {"sum join anew", 9},
            {"sum fixed 5 late -1", 17}, {"sum fixed 5 late 00", 18}, {"sum fixed 5 late 100", 19},
            {"sum fixed 5 late x", 17}, {"sum fixed 5 late late", 17}, {"sum fixed 5 late 1 late", 19},
            {"sum fixed 5 anew late 3", 17}, {"sum fixed 5 anew diff", 17}, {"sum fixed 5 anewx", 16},
            {"sum fixed 5 back 3", 17}, {"sum fixed 5 max", 12}, {"sum count", 4}, {"sum fixed join", 10},
            {"sum sliding 4late", 13}, {"countx", 5}, {"maxim", 3}, {"sum sx", 5}, {"sum sessioning", 11}};
        for (Object[] row : wrong) {
            due("'" + row[0] + "'", faultOf((String) row[0]), (Integer) row[1]);
        }
        String longest = "sum if > -10 join sliding 40 10 late 15 diff                ";
        due("60 characters", longest.length(), 60);
        due("'" + longest + "'", faultOf(longest), -1);
        String cut = "sum                                                  sliding";
        due("'" + cut + "'", faultOf(cut), 60);
        Streamloom x = new Streamloom();
        type(x, "sum fixed 5");
        due("twice", x.fault() + x.fault(), -2);
        due("leaves the text", x.wipe(), 11);
    }

    private static void promise5() {
        about = "promise 5";
        Streamloom x = new Streamloom();
        throwsDue("an empty text", ARGUMENT, () -> x.plan(false));
        type(x, "sum fixed");
        throwsDue("too short", ARGUMENT, () -> x.plan(false));
        throwsDue("too short, kept", ARGUMENT, () -> x.plan(true));
        due("the text stays", x.wipe(), 9);
        String[] unfit = {"sum sliding 10 4", "sum sliding 4 8", "sum sliding 20 4", "sum sliding 99 1"};
        for (String query : unfit) {
            throwsDue(query, ARGUMENT, () -> plan(x, query, false));
            throwsDue(query + ", kept", ARGUMENT, () -> plan(x, query, true));
        }
        throwsDue("nothing to keep", STATE, () -> plan(x, "sum fixed 5", true));
        due("the text stays", x.wipe(), 11);
        due("4 slides", plan(x, "sum sliding 16 4", false), 0);
        due("1 slide", plan(x, "sum sliding 4 4", false), 0);
        due("the text is empty", x.wipe(), 0);
        x.idle(1, true);
        x.idle(2, true);
        feed(x, 0, 3, 5, 7);
        feed(x, 0, 3, 9, 1);
        feed(x, 0, 3, 2, 1);
        x.barrier();
        x.complete(0);
        x.barrier();
        due("too late", x.tooLate(), 1);
        due("results", x.results(), 1);
        due("committed", x.committed(), 1);
        due("anew", plan(x, "sum fixed 5", false), 0);
        due("watermark", x.watermark(), -1);
        due("windows", x.windows(), 0);
        due("results", x.results(), 0);
        due("committed", x.committed(), 0);
        due("doubtful", x.doubtful(), 0);
        due("too late", x.tooLate(), 0);
        due("read", x.read(0), 0);
        due("snapshots are numbered anew", x.barrier(), 0);
        due("idle ones stay, and the events", x.step(0) + x.step(0), 0);
        due("watermark", x.watermark(), 9);
        due("crash goes to the beginning of the plan", x.crash(), 0);
        due("read", x.read(0), 0);
    }

    private static void promise5Kept() {
        about = "promise 5, kept";
        Streamloom x = single("sum sliding 8 4 late 9");
        feed(x, 0, 1, 5, 10);
        x.barrier();
        String[] others = {
            "count sliding 8 4 late 9", "max sliding 8 4 late 9", "sum fixed 8 late 9", "sum session 8 late 9",
            "sum sliding 8 8 late 9", "sum sliding 4 4 late 9", "sum sliding 8 4 late 10"};
        for (String query : others) {
            throwsDue(query, STATE, () -> plan(x, query, true));
            due("the text stays", x.wipe(), query.length());
        }
        throwsDue("unfit ahead of other windows", ARGUMENT, () -> plan(x, "sum sliding 8 3", true));
        due("less late", plan(x, "sum if > 2 join sliding 8 4 late 8 diff", true), 2);
        due("the text is empty", x.wipe(), 0);
        due("windows", x.windows(), 2);
        due("watermark", x.watermark(), 5);
        due("doubtful", x.doubtful(), 1);
        due("read", x.read(0), 1);
        throwsDue("no going back to more", STATE, () -> plan(x, "sum sliding 8 4 late 9", true));
        x.table(1, 0, 50);
        feed(x, 0, 1, 5, 2);
        window(x, 0, 1, 0, 8, 10, 0);
        feed(x, 0, 1, 5, 3);
        window(x, 0, 1, 0, 8, 63, 0);
        due("same again", plan(x, "sum sliding 8 4 late 8", true), 2);
        Streamloom y = single("sum fixed 5");
        throwsDue("fixed of another size", STATE, () -> plan(y, "sum fixed 6", true));
        Streamloom z = single("sum session 5");
        throwsDue("session of another size", STATE, () -> plan(z, "sum session 6", true));
        throwsDue("fixed is not sliding", STATE, () -> plan(y, "sum sliding 5 5", true));
        modesOverKeptWindows();
    }

    private static void modesOverKeptWindows() {
        Streamloom x = single("sum fixed 10 late 50");
        feed(x, 0, 0, 1, 4);
        feed(x, 0, 1, 20, 1);
        result(x, 0, 0, 0, 10, 4, Streamloom.SET);
        plan(x, "sum fixed 10 late 50 diff", true);
        due("told by the difference", feed(x, 0, 0, 2, 3), 1);
        result(x, 1, 0, 0, 10, 3, Streamloom.ADD);
        plan(x, "sum fixed 10 late 50 back", true);
        due("told and taken back", feed(x, 0, 0, 3, 1), 2);
        result(x, 2, 0, 0, 10, 7, Streamloom.BACK);
        result(x, 3, 0, 0, 10, 8, Streamloom.ADD);
        due("total", x.total(0, 0), 8);
        plan(x, "sum fixed 10 late 0 back", true);
        due("a lesser lateness drops none by itself", x.windows(), 2);
        due("but is too late", feed(x, 0, 0, 4, 1), 0);
        due("too late", x.tooLate(), 1);
        feed(x, 0, 2, 20, 1);
        due("the same watermark has not grown", x.windows(), 3);
        feed(x, 0, 1, 21, 1);
        due("dropped with the watermark", x.windows(), 2);
    }

    private static void promise6() {
        about = "promise 6";
        Streamloom x = new Streamloom();
        throwsDue("partition -1", INDEX, () -> x.event(-1, 0, 0, 0));
        throwsDue("partition 3", INDEX, () -> x.event(3, 0, 0, 0));
        throwsDue("key -1", INDEX, () -> x.event(0, -1, 0, 0));
        throwsDue("key 8", INDEX, () -> x.event(0, 8, 0, 0));
        throwsDue("key 8, time -1", INDEX, () -> x.event(0, 8, -1, 0));
        throwsDue("time -1", ARGUMENT, () -> x.event(0, 0, -1, 0));
        throwsDue("time 1000", ARGUMENT, () -> x.event(0, 0, 1000, 0));
        throwsDue("value -100", ARGUMENT, () -> x.event(0, 0, 0, -100));
        throwsDue("value 100", ARGUMENT, () -> x.event(0, 0, 0, 100));
        due("event", x.event(0, 0, 0, -99), 1);
        due("event", x.event(1, 7, 999, 99), 1);
        due("event", x.event(0, 7, 999, 99), 2);
        for (int told = 3; told < 300; told++) {
            due("event", x.event(2, 1, 1, 1), told - 2);
        }
        throwsDue("the 301st", STATE, () -> x.event(0, 0, 0, 0));
        throwsDue("the 301st, time 1000", ARGUMENT, () -> x.event(0, 0, 1000, 0));
        throwsDue("the 301st, key 8", INDEX, () -> x.event(0, 8, 1000, 0));
    }

    private static void promise7() {
        about = "promise 7";
        Streamloom x = single("sum fixed 5");
        throwsDue("partition 3", INDEX, () -> x.bound(3, 0));
        throwsDue("partition -1, bound 100", INDEX, () -> x.bound(-1, 100));
        throwsDue("bound -1", ARGUMENT, () -> x.bound(0, -1));
        throwsDue("bound 100", ARGUMENT, () -> x.bound(0, 100));
        due("first", x.bound(0, 99), 0);
        due("second", x.bound(0, 7), 99);
        due("another partition", x.bound(1, 1), 0);
        feed(x, 0, 0, 20, 1);
        due("watermark", x.watermark(), 13);
        due("third", x.bound(0, 3), 7);
        due("not found yet", x.watermark(), 13);
        due("found by idle()", x.idle(1, true), 17);
        x.bound(0, 0);
        feed(x, 0, 0, 19, 1);
        due("found by step()", x.watermark(), 20);
        x.bound(0, 50);
        feed(x, 0, 0, 21, 1);
        due("never falls", x.watermark(), 20);
    }

    private static void promise8() {
        about = "promise 8";
        Streamloom x = new Streamloom();
        throwsDue("partition 3", INDEX, () -> x.idle(3, true));
        throwsDue("partition -1", INDEX, () -> x.idle(-1, false));
        due("no plan", x.idle(2, true), -1);
        plan(x, "sum fixed 5 late 4", false);
        feed(x, 0, 1, 4, 1);
        feed(x, 0, 2, 14, 1);
        due("nothing was read of 1", x.watermark(), -1);
        due("told by idle()", x.idle(1, true), 14);
        due("results", x.results(), 1);
        result(x, 0, 1, 0, 5, 1, Streamloom.SET);
        due("dropped by idle()", x.windows(), 1);
        due("all idle", x.idle(0, true), 14);
        due("back", x.idle(0, false), 14);
        feed(x, 1, 1, 30, 1);
        due("1 is idle", x.watermark(), 14);
        due("the least", x.idle(1, false), 14);
        due("without 0", x.idle(0, true), 30);
        due("results", x.results(), 2);
        due("never falls", x.idle(0, false), 30);
        due("nothing was read of 2", x.idle(2, false), 30);
    }

    private static void promise9() {
        about = "promise 9";
        Streamloom x = new Streamloom();
        throwsDue("key -1", INDEX, () -> x.table(-1, 0, 0));
        throwsDue("key 8, time 1000", INDEX, () -> x.table(8, 1000, 0));
        throwsDue("time -1", ARGUMENT, () -> x.table(0, -1, 0));
        throwsDue("time 1000", ARGUMENT, () -> x.table(0, 1000, 0));
        throwsDue("value -100", ARGUMENT, () -> x.table(0, 0, -100));
        throwsDue("value 100", ARGUMENT, () -> x.table(0, 0, 100));
        for (int told = 1; told <= 60; told++) {
            due("table", x.table(told % 8, 999, told % 2 == 0 ? 99 : -99), told);
        }
        throwsDue("the 61st", STATE, () -> x.table(0, 0, 0));
        throwsDue("the 61st, value 100", ARGUMENT, () -> x.table(0, 0, 100));
        throwsDue("the 61st, key 8", INDEX, () -> x.table(8, 0, 0));
    }

    private static void promise10Order() {
        about = "promise 10, throws";
        Streamloom x = new Streamloom();
        throwsDue("partition 3, no plan", INDEX, () -> x.step(3));
        throwsDue("partition -1", INDEX, () -> x.step(-1));
        throwsDue("no plan, no event", STATE, () -> x.step(0));
        plan(x, "sum fixed 1", false);
        throwsDue("no event", ELEMENT, () -> x.step(0));
        x.idle(1, true);
        x.idle(2, true);
        x.event(0, 0, 0, 1);
        due("step", x.step(0), 0);
        throwsDue("all were read", ELEMENT, () -> x.step(0));
        for (int time = 1; time < 30; time++) {
            due("step", feed(x, 0, 0, time, 1), 1);
        }
        due("results", x.results(), 29);
        due("29 are open", feed(x, 0, 0, 30, 1), 1);
        throwsDue("30 are open, all were read", STATE, () -> x.step(0));
        x.event(0, 0, 31, 1);
        throwsDue("30 are open", STATE, () -> x.step(0));
        throwsDue("30 are open, partition 3", INDEX, () -> x.step(3));
        due("read", x.read(0), 31);
        due("barrier", x.barrier(), 0);
        due("none is open", x.step(0), 1);
        due("complete", x.complete(0), 30);
        due("one is open", feed(x, 0, 0, 32, 1), 1);
        for (int time = 33; time < 61; time++) {
            feed(x, 0, 0, time, 1);
        }
        throwsDue("30 are open behind those that are committed", STATE, () -> x.step(0));
        due("crash", x.crash(), 30);
        due("none is open", x.step(0), 1);
    }

    private static void promise10Filter() {
        about = "promise 10, if";
        String[] queries = {"sum if < 3 fixed 5", "sum if = 3 fixed 5", "sum if > 3 fixed 5", "sum if > -3 fixed 5",
            "sum if = -3 fixed 5", "sum if < 0 fixed 5"};
        int[] totals = {-1, 3, 4, 9, -3, -3};
        int[] values = {-3, 2, 3, 4};
        for (int i = 0; i < queries.length; i++) {
            Streamloom x = single(queries[i]);
            for (int value : values) {
                feed(x, 0, 0, 0, value);
            }
            due(queries[i], x.window(0, 3), totals[i]);
        }
        Streamloom x = single("sum if > 3 fixed 5");
        feed(x, 0, 0, 9, 3);
        due("what does not count makes no window", x.windows(), 0);
        due("but moves the watermark", x.watermark(), 9);
        feed(x, 0, 0, 0, 3);
        due("and is not too late", x.tooLate(), 0);
    }

    private static void promise10Join() {
        about = "promise 10, join";
        Streamloom x = single("sum if < 5 join fixed 10");
        x.table(1, 4, 20);
        x.table(1, 6, 30);
        x.table(2, 0, 90);
        x.table(1, 2, 10);
        x.table(1, 4, 21);
        int[] times = {1, 2, 3, 4, 5, 6, 9};
        int[] totals = {4, 18, 32, 57, 82, 116, 150};
        for (int i = 0; i < times.length; i++) {
            feed(x, 0, 1, times[i], 4);
            due("at " + times[i], x.window(0, 3), totals[i]);
        }
        feed(x, 0, 3, 9, 4);
        due("a key without a value", x.window(1, 3), 4);
        x.table(1, 0, -50);
        feed(x, 0, 1, 1, -4);
        due("told later", x.window(0, 3), 96);
        Streamloom y = single("max join fixed 10");
        y.table(0, 0, -99);
        feed(y, 0, 0, 5, -99);
        due("max is not 0", y.window(0, 3), -198);
        Streamloom z = single("count join fixed 10");
        z.table(0, 0, 50);
        feed(z, 0, 0, 5, 9);
        feed(z, 0, 0, 5, -9);
        due("count", z.window(0, 3), 2);
        Streamloom w = single("sum fixed 10");
        w.table(0, 0, 50);
        feed(w, 0, 0, 5, 9);
        due("without join", w.window(0, 3), 9);
    }

    private static void promise10Fixed() {
        about = "promise 10, fixed";
        Streamloom x = single("max fixed 7 late 3");
        x.bound(0, 10);
        feed(x, 0, 0, 6, -5);
        feed(x, 0, 0, 0, -9);
        feed(x, 0, 0, 7, 1);
        feed(x, 0, 0, 13, 0);
        window(x, 0, 0, 0, 7, -5, 0);
        window(x, 1, 0, 7, 14, 1, 0);
        feed(x, 0, 0, 19, 1);
        due("watermark", x.watermark(), 9);
        window(x, 0, 0, 0, 7, -5, 1);
        due("its end and lateness are above 9", feed(x, 0, 0, 5, 8), 1);
        result(x, 1, 0, 0, 7, 8, Streamloom.SET);
        feed(x, 0, 0, 20, 1);
        due("dropped at 10", x.windows(), 2);
        due("too late at 10", feed(x, 0, 0, 6, 9), 0);
        due("too late", x.tooLate(), 1);
        Streamloom y = single("sum fixed 5");
        feed(y, 0, 0, 4, 1);
        due("an end above the watermark", y.results(), 0);
        due("an end at the watermark", feed(y, 0, 1, 5, 1), 1);
        due("dropped at once without lateness", y.windows(), 1);
    }

    private static void promise10Sliding() {
        about = "promise 10, sliding";
        Streamloom x = single("sum sliding 12 4 late 2");
        x.bound(0, 50);
        feed(x, 0, 0, 0, 1);
        due("at 0", x.windows(), 1);
        feed(x, 0, 0, 4, 2);
        due("at 4", x.windows(), 2);
        feed(x, 0, 0, 11, 4);
        window(x, 0, 0, 0, 12, 7, 0);
        window(x, 1, 0, 4, 16, 6, 0);
        window(x, 2, 0, 8, 20, 4, 0);
        feed(x, 0, 0, 12, 8);
        window(x, 0, 0, 0, 12, 7, 0);
        window(x, 1, 0, 4, 16, 14, 0);
        window(x, 3, 0, 12, 24, 8, 0);
        feed(x, 0, 0, 66, 0);
        due("watermark", x.watermark(), 16);
        due("told", x.results(), 2);
        result(x, 0, 0, 0, 12, 7, Streamloom.SET);
        result(x, 1, 0, 4, 16, 14, Streamloom.SET);
        due("0 is dropped at 14", x.window(0, 1), 4);
        due("too late for one of three", feed(x, 0, 0, 10, 100 - 84), 1);
        due("too late", x.tooLate(), 1);
        result(x, 2, 0, 4, 16, 30, Streamloom.SET);
        due("not told yet", x.window(1, 3), 28);
        feed(x, 0, 0, 70, 0);
        due("too late for all three", feed(x, 0, 0, 4, 1), 0);
        due("too late", x.tooLate(), 3);
        Streamloom y = single("count sliding 4 1");
        y.bound(0, 99);
        feed(y, 0, 0, 999, 1);
        due("four of them", y.windows(), 4);
        window(y, 3, 0, 999, 1003, 1, 0);
        window(y, 0, 0, 996, 1000, 1, 0);
    }

    private static void promise10Session() {
        about = "promise 10, session";
        Streamloom x = single("sum session 5 late 30");
        x.bound(0, 40);
        feed(x, 0, 0, 10, 1);
        feed(x, 0, 0, 15, 2);
        due("touching is not overlapping", x.windows(), 2);
        feed(x, 0, 0, 5, 4);
        due("nor from below", x.windows(), 3);
        feed(x, 0, 1, 12, 50);
        due("nor another key", x.windows(), 4);
        feed(x, 0, 0, 12, 8);
        window(x, 0, 0, 5, 10, 4, 0);
        window(x, 1, 0, 10, 20, 11, 0);
        feed(x, 0, 0, 9, 16);
        window(x, 0, 0, 5, 20, 31, 0);
        feed(x, 0, 0, 14, 32);
        window(x, 0, 0, 5, 20, 63, 0);
        feed(x, 0, 0, 19, 1);
        window(x, 0, 0, 5, 24, 64, 0);
        sessionsTakenBack("anew", Streamloom.SET);
        sessionsTakenBack("diff", Streamloom.ADD);
        sessionsTakenBack("back", Streamloom.ADD);
        sessionsTooLate();
    }

    private static void sessionsTakenBack(String mode, int kind) {
        Streamloom x = single("max session 5 late 50 " + mode);
        feed(x, 0, 0, 20, 3);
        feed(x, 0, 0, 10, 1);
        feed(x, 0, 0, 30, 2);
        feed(x, 0, 1, 40, 0);
        due("told", x.results(), 3);
        result(x, 0, 0, 10, 15, 1, kind);
        result(x, 1, 0, 20, 25, 3, kind);
        result(x, 2, 0, 30, 35, 2, kind);
        due("inside: no other beginning or end", feed(x, 0, 0, 20, 7), mode.equals("back") ? 2 : 1);
        due("total", x.total(0, 20), 7);
        int from = x.results();
        due("becomes longer", feed(x, 0, 0, 14, 0), 2);
        result(x, from, 0, 10, 15, 1, Streamloom.BACK);
        result(x, from + 1, 0, 10, 19, 1, kind);
        due("the total is taken over", x.total(0, 10), 1);
        due("two become one", feed(x, 0, 0, 16, 9), 3);
        result(x, from + 2, 0, 10, 19, 1, Streamloom.BACK);
        result(x, from + 3, 0, 20, 25, 7, Streamloom.BACK);
        result(x, from + 4, 0, 10, 25, 9, kind);
        due("windows", x.windows(), 3);
        due("nothing is left at 20", x.total(0, 20), 0);
        window(x, 0, 0, 10, 25, 9, 1);
        due("an end above the watermark", feed(x, 0, 1, 38, 0), 0);
        due("overlaps one that is told", feed(x, 0, 0, 34, 5), 2);
        result(x, from + 5, 0, 30, 35, 2, Streamloom.BACK);
        result(x, from + 6, 0, 30, 39, 5, kind);
        due("not told any more", feed(x, 0, 0, 38, 5), 1);
        window(x, 1, 0, 30, 43, 5, 0);
        result(x, from + 7, 0, 30, 39, 5, Streamloom.BACK);
        due("total", x.total(0, 30), 0);
        due("told again with the watermark", feed(x, 0, 2, 43, 0), 1);
        result(x, from + 8, 0, 30, 43, 5, kind);
    }

    private static void sessionsTooLate() {
        Streamloom x = single("count session 5 late 5");
        feed(x, 0, 0, 8, 1);
        feed(x, 0, 1, 12, 1);
        due("too late, and overlaps none", feed(x, 0, 0, 2, 1), 0);
        due("too late", x.tooLate(), 1);
        due("in time", feed(x, 0, 2, 3, 1), 1);
        feed(x, 0, 1, 17, 1);
        due("too late, but overlaps one that is there", feed(x, 0, 0, 7, 1), 2);
        window(x, 0, 0, 7, 13, 2, 1);
        due("too late", x.tooLate(), 1);
        due("of another key", feed(x, 0, 2, 7, 1), 0);
        due("too late", x.tooLate(), 2);
    }

    private static void promise10Modes() {
        about = "promise 10, modes";
        Streamloom anew = single("sum fixed 5 late 20");
        Streamloom diff = single("sum fixed 5 late 20 diff");
        Streamloom back = single("sum fixed 5 late 20 back");
        Streamloom[] all = {anew, diff, back};
        int[] kinds = {Streamloom.SET, Streamloom.ADD, Streamloom.ADD};
        for (int i = 0; i < 3; i++) {
            Streamloom x = all[i];
            feed(x, 0, 4, 4, 7);
            due("told first", feed(x, 0, 5, 12, 1), 1);
            result(x, 0, 4, 0, 5, 7, kinds[i]);
            due("told at once, behind the watermark", feed(x, 0, 3, 6, 9), 1);
            result(x, 1, 3, 5, 10, 9, kinds[i]);
            due("told again", feed(x, 0, 4, 3, -2), i == 2 ? 2 : 1);
            due("told with 0 more", feed(x, 0, 4, 3, 0), i == 2 ? 2 : 1);
            due("total", x.total(4, 0), 5);
        }
        result(anew, 2, 4, 0, 5, 5, Streamloom.SET);
        result(diff, 2, 4, 0, 5, -2, Streamloom.ADD);
        result(back, 2, 4, 0, 5, 7, Streamloom.BACK);
        result(back, 3, 4, 0, 5, 5, Streamloom.ADD);
        result(anew, 3, 4, 0, 5, 5, Streamloom.SET);
        result(diff, 3, 4, 0, 5, 0, Streamloom.ADD);
        result(back, 4, 4, 0, 5, 5, Streamloom.BACK);
        result(back, 5, 4, 0, 5, 5, Streamloom.ADD);
    }

    private static void promise10Telling() {
        about = "promise 10, the order of telling";
        Streamloom x = single("sum session 5");
        x.bound(0, 99);
        feed(x, 0, 1, 30, 1);
        feed(x, 0, 5, 20, 2);
        feed(x, 0, 5, 22, 3);
        feed(x, 0, 3, 22, 4);
        feed(x, 0, 2, 22, 5);
        feed(x, 0, 4, 10, 6);
        feed(x, 0, 0, 31, 7);
        due("windows", x.windows(), 6);
        x.bound(0, 0);
        due("told", feed(x, 0, 7, 35, 1), 5);
        result(x, 0, 4, 10, 15, 6, Streamloom.SET);
        result(x, 1, 5, 20, 27, 5, Streamloom.SET);
        result(x, 2, 2, 22, 27, 5, Streamloom.SET);
        result(x, 3, 3, 22, 27, 4, Streamloom.SET);
        result(x, 4, 1, 30, 35, 1, Streamloom.SET);
        due("left", x.windows(), 2);
        Streamloom y = single("sum fixed 5");
        y.bound(0, 50);
        feed(y, 0, 6, 2, 1);
        feed(y, 0, 1, 2, 1);
        feed(y, 0, 0, 7, 1);
        y.bound(0, 0);
        due("told", feed(y, 0, 0, 12, 1), 3);
        due("rising keys", y.result(0, 0), 1);
        due("rising keys", y.result(1, 0), 6);
        due("rising ends", y.result(2, 0), 0);
    }

    private static void promise11() {
        about = "promise 11";
        Streamloom x = planned("sum fixed 5");
        due("first", x.watermark(), -1);
        x.bound(1, 4);
        feed(x, 0, 0, 10, 1);
        feed(x, 1, 0, 9, 1);
        due("one was not read", x.watermark(), -1);
        feed(x, 2, 0, 20, 1);
        due("the least less its bound", x.watermark(), 5);
        feed(x, 1, 0, 3, 1);
        due("the greatest time that was read", x.watermark(), 5);
        feed(x, 1, 0, 13, 1);
        due("watermark", x.watermark(), 9);
        feed(x, 1, 0, 50, 1);
        due("watermark", x.watermark(), 10);
        Streamloom y = single("sum fixed 5");
        y.bound(0, 99);
        feed(y, 0, 0, 5, 1);
        due("never below -1", y.watermark(), -1);
        feed(y, 0, 0, 99, 1);
        due("at 0", y.watermark(), 0);
    }

    private static void promise12() {
        about = "promise 12";
        Streamloom x = planned("sum fixed 5");
        throwsDue("partition 3", INDEX, () -> x.read(3));
        throwsDue("partition -1", INDEX, () -> x.read(-1));
        x.event(1, 0, 0, 0);
        due("told is not read", x.read(1), 0);
        x.step(1);
        due("read", x.read(1), 1);
        due("another", x.read(0), 0);
    }

    private static void promise13() {
        about = "promise 13";
        Streamloom x = single("sum sliding 8 2");
        feed(x, 0, 0, 100, 0);
        feed(x, 0, 0, 50, 1);
        due("for four windows", x.tooLate(), 4);
        feed(x, 0, 0, 98, 1);
        due("for one of four", x.tooLate(), 5);
        feed(x, 0, 0, 1, 1);
        due("for the one at 0", x.tooLate(), 6);
        x.crash();
        due("after a crash", x.tooLate(), 0);
    }

    private static void promise14And15() {
        about = "promises 14 and 15";
        Streamloom x = single("sum fixed 10");
        x.bound(0, 99);
        throwsDue("none", INDEX, () -> x.window(0, 0));
        throwsDue("none, what 5", INDEX, () -> x.window(0, 5));
        feed(x, 0, 3, 25, 1);
        feed(x, 0, 1, 35, 2);
        feed(x, 0, 3, 5, 3);
        feed(x, 0, 1, 99, 4);
        due("windows", x.windows(), 4);
        window(x, 0, 1, 30, 40, 2, 0);
        window(x, 1, 1, 90, 100, 4, 0);
        window(x, 2, 3, 0, 10, 3, 0);
        window(x, 3, 3, 20, 30, 1, 0);
        throwsDue("window 4", INDEX, () -> x.window(4, 0));
        throwsDue("window -1", INDEX, () -> x.window(-1, 0));
        throwsDue("what 5", ARGUMENT, () -> x.window(0, 5));
        throwsDue("what -1", ARGUMENT, () -> x.window(3, -1));
    }

    private static void promise16To18() {
        about = "promises 16 to 18";
        Streamloom x = single("sum fixed 1");
        throwsDue("none", INDEX, () -> x.result(0, 5));
        feed(x, 0, 2, 0, 5);
        feed(x, 0, 2, 1, 5);
        due("results", x.results(), 1);
        due("committed", x.committed(), 0);
        result(x, 0, 2, 0, 1, 5, Streamloom.SET);
        throwsDue("result 1", INDEX, () -> x.result(1, 0));
        throwsDue("result -1", INDEX, () -> x.result(-1, 0));
        throwsDue("what 5", ARGUMENT, () -> x.result(0, 5));
        throwsDue("what -1", ARGUMENT, () -> x.result(0, -1));
        x.barrier();
        feed(x, 0, 2, 2, 5);
        due("results", x.results(), 2);
        due("a barrier commits none", x.committed(), 0);
        x.complete(0);
        due("results", x.results(), 2);
        due("committed", x.committed(), 1);
        x.crash();
        due("results", x.results(), 1);
        due("committed", x.committed(), 1);
        result(x, 0, 2, 0, 1, 5, Streamloom.SET);
    }

    private static void promise19() {
        about = "promise 19";
        Streamloom x = single("sum fixed 10 late 99 back");
        throwsDue("key 8", INDEX, () -> x.total(8, 0));
        throwsDue("key -1", INDEX, () -> x.total(-1, 0));
        due("any number", x.total(0, Integer.MIN_VALUE), 0);
        due("any number", x.total(0, Integer.MAX_VALUE), 0);
        feed(x, 0, 0, 5, 3);
        due("not told", x.total(0, 0), 0);
        feed(x, 0, 1, 20, 3);
        due("told", x.total(0, 0), 3);
        feed(x, 0, 0, 5, 4);
        due("told again", x.total(0, 0), 7);
        due("of another key", x.total(1, 0), 0);
        due("of another beginning", x.total(0, 10), 0);
        plan(x, "sum fixed 10 late 99 anew", true);
        feed(x, 0, 0, 5, 1);
        due("set", x.total(0, 0), 8);
        plan(x, "sum fixed 10 late 99 diff", true);
        feed(x, 0, 0, 5, 2);
        due("added", x.total(0, 0), 10);
        x.crash();
        due("after a crash", x.total(0, 0), 0);
    }

    private static void promise20() {
        about = "promise 20";
        Streamloom none = new Streamloom();
        throwsDue("key 8, no plan", INDEX, () -> none.totalAnew(8, 0));
        throwsDue("key -1, no plan", INDEX, () -> none.totalAnew(-1, 0));
        throwsDue("no plan", STATE, () -> none.totalAnew(0, 0));
        Streamloom session = single("sum session 5");
        throwsDue("sessions", STATE, () -> session.totalAnew(0, 0));
        throwsDue("sessions, key 8", INDEX, () -> session.totalAnew(8, 0));
        Streamloom x = single("sum if > 0 join sliding 10 5 late 3");
        x.table(1, 0, 10);
        x.event(0, 1, 8, 1);
        x.event(0, 1, 8, 0);
        x.event(0, 2, 9, 5);
        x.event(0, 1, 14, 2);
        x.event(0, 1, 9, 3);
        x.step(0);
        x.step(0);
        x.step(0);
        due("an end above the watermark", x.totalAnew(1, 0), 0);
        x.step(0);
        due("watermark", x.watermark(), 14);
        due("told", x.totalAnew(1, 0), 11);
        due("of another key", x.totalAnew(2, 0), 5);
        due("its end is above", x.totalAnew(1, 5), 0);
        x.step(0);
        due("too late for one", x.tooLate(), 1);
        due("without what is too late", x.totalAnew(1, 0), 11);
        x.table(1, 0, 50);
        plan(x, "sum if > 90 sliding 10 5 late 0", true);
        feed(x, 0, 3, 20, 1);
        due("by the query and the table of then", x.totalAnew(1, 5), 36);
        due("the same by the results", x.total(1, 5), 36);
        due("it did not count", x.totalAnew(3, 10), 0);
        due("no window begins there", x.totalAnew(1, 6), 0);
        due("nor there", x.totalAnew(1, -5), 0);
        due("nor there", x.totalAnew(1, Integer.MIN_VALUE), 0);
        due("nor there", x.totalAnew(1, Integer.MAX_VALUE), 0);
        due("nor there", x.totalAnew(1, 2147483645), 0);
        x.crash();
        due("after a crash", x.totalAnew(1, 5), 0);
        plan(x, "sum join sliding 10 5 late 0", true);
        for (int i = 0; i < 6; i++) {
            x.step(0);
        }
        due("read again by another query", x.totalAnew(1, 5), 206);
        due("the same by the results", x.total(1, 5), 206);
        totalsAnewOfMaxAndCount();
        totalsAnewAtTheEdges();
    }

    private static void totalsAnewAtTheEdges() {
        Streamloom x = single("sum sliding 10 5 late 5");
        feed(x, 0, 0, 2, 1);
        feed(x, 0, 0, 5, 2);
        feed(x, 0, 0, 15, 4);
        due("from its beginning on", x.totalAnew(0, 5), 2);
        due("up to its end", x.totalAnew(0, 0), 3);
        due("none begins below 0", x.totalAnew(0, -5), 0);
        feed(x, 0, 0, 6, 8);
        due("too late at its end and the lateness", x.totalAnew(0, 0), 3);
        due("not for the next one", x.totalAnew(0, 5), 10);
        x.barrier();
        feed(x, 0, 0, 7, 16);
        due("one more", x.totalAnew(0, 5), 26);
        x.complete(0);
        x.crash();
        due("not read any more", x.totalAnew(0, 5), 10);
        Streamloom y = single("sum sliding 2 1");
        feed(y, 0, 0, 1, 1);
        feed(y, 0, 0, 2, 2);
        due("a slide of 1", y.totalAnew(0, 0), 1);
    }

    private static void totalsAnewOfMaxAndCount() {
        Streamloom max = single("max fixed 5");
        Streamloom count = single("count fixed 5");
        Streamloom[] both = {max, count};
        for (Streamloom x : both) {
            feed(x, 0, 0, 1, -7);
            feed(x, 0, 0, 2, -5);
            feed(x, 0, 0, 4, -6);
            feed(x, 0, 0, 5, 1);
        }
        due("max", max.totalAnew(0, 0), -5);
        due("count", count.totalAnew(0, 0), 3);
        Streamloom parts = planned("sum fixed 5");
        feed(parts, 0, 0, 1, 1);
        feed(parts, 1, 0, 2, 2);
        feed(parts, 2, 0, 3, 4);
        feed(parts, 0, 0, 9, 0);
        feed(parts, 1, 0, 9, 0);
        feed(parts, 2, 0, 9, 0);
        due("of all partitions", parts.totalAnew(0, 0), 7);
    }

    private static void promise21() {
        about = "promise 21";
        Streamloom x = new Streamloom();
        throwsDue("no plan", STATE, () -> x.barrier());
        plan(x, "sum fixed 5", false);
        for (int i = 0; i < 5; i++) {
            due("barrier", x.barrier(), i);
        }
        throwsDue("5 are in doubt", STATE, () -> x.barrier());
        x.complete(1);
        due("the next number", x.barrier(), 5);
        due("barrier", x.barrier(), 6);
        throwsDue("5 are in doubt again", STATE, () -> x.barrier());
        x.crash();
        due("the numbers go on behind a crash", x.barrier(), 7);
        plan(x, "sum fixed 5 late 0 diff", true);
        due("and with a kept plan", x.barrier(), 8);
        plan(x, "sum fixed 5", false);
        due("but not with one anew", x.barrier(), 0);
    }

    private static void promise22() {
        about = "promise 22";
        Streamloom x = single("sum fixed 1");
        throwsDue("none", INDEX, () -> x.complete(0));
        feed(x, 0, 0, 0, 1);
        x.barrier();
        feed(x, 0, 0, 1, 1);
        x.barrier();
        feed(x, 0, 0, 2, 1);
        x.barrier();
        feed(x, 0, 0, 3, 1);
        x.barrier();
        feed(x, 0, 0, 4, 1);
        throwsDue("-1", INDEX, () -> x.complete(-1));
        throwsDue("4", INDEX, () -> x.complete(4));
        due("up to the second", x.complete(1), 1);
        due("in doubt", x.doubtful(), 2);
        throwsDue("gone", INDEX, () -> x.complete(0));
        throwsDue("completed", INDEX, () -> x.complete(1));
        due("up to the fourth", x.complete(3), 2);
        due("committed", x.committed(), 3);
        due("in doubt", x.doubtful(), 0);
        throwsDue("gone", INDEX, () -> x.complete(2));
        x.barrier();
        due("one more", x.complete(4), 1);
        x.barrier();
        due("none by that", x.complete(5), 0);
    }

    private static void promise23() {
        about = "promise 23";
        Streamloom x = planned("sum fixed 1");
        due("none", x.doubtful(), 0);
        x.barrier();
        x.barrier();
        x.barrier();
        due("three", x.doubtful(), 3);
        x.complete(0);
        due("two", x.doubtful(), 2);
        x.crash();
        due("gone", x.doubtful(), 0);
        throwsDue("gone", INDEX, () -> x.complete(1));
    }

    private static void promise24() {
        about = "promise 24";
        Streamloom none = new Streamloom();
        throwsDue("no plan", STATE, () -> none.crash());
        Streamloom x = single("sum fixed 10 late 5");
        x.workers(3);
        x.bound(0, 2);
        x.table(0, 0, 1);
        feed(x, 0, 0, 5, 1);
        feed(x, 0, 1, 15, 2);
        feed(x, 0, 2, 22, 3);
        feed(x, 0, 3, 1, 4);
        x.barrier();
        feed(x, 0, 0, 16, 5);
        feed(x, 0, 1, 40, 6);
        x.barrier();
        feed(x, 0, 1, 41, 6);
        due("committed", x.complete(0), 2);
        due("results", x.results(), 4);
        due("gone", x.crash(), 2);
        due("results", x.results(), 2);
        due("committed", x.committed(), 2);
        due("doubtful", x.doubtful(), 0);
        due("read", x.read(0), 4);
        due("watermark", x.watermark(), 20);
        due("too late", x.tooLate(), 1);
        due("windows", x.windows(), 2);
        window(x, 0, 1, 10, 20, 2, 1);
        window(x, 1, 2, 20, 30, 3, 0);
        due("workers stay", x.load(2), 0);
        due("bounds stay", x.bound(0, 2), 2);
        due("the table stays", x.table(0, 0, 0), 2);
        due("the events stay", x.event(0, 0, 0, 0), 8);
        due("the text is as it was", x.wipe(), 0);
        due("read again", x.step(0), 1);
        due("again", x.crash(), 1);
        due("nothing more is gone", x.crash(), 0);
        due("greatest times are as they were", x.idle(0, false), 20);
        plan(x, "sum fixed 10 late 5", false);
        x.step(0);
        due("to the beginning of the plan", x.crash(), 0);
        due("read", x.read(0), 0);
        due("watermark", x.watermark(), -1);
        due("windows", x.windows(), 0);
        due("nothing was read", x.idle(0, false), -1);
        resultsAgainAfterACrash();
        manyWindowsAfterACrash();
    }

    private static void manyWindowsAfterACrash() {
        Streamloom x = single("sum sliding 4 1");
        x.bound(0, 99);
        for (int time = 0; time < 99; time++) {
            feed(x, 0, time % 8, time, time);
        }
        int count = x.windows();
        x.barrier();
        x.complete(0);
        feed(x, 0, 0, 999, 1);
        due("dropped", x.windows(), 4);
        due("gone", x.crash(), count);
        due("windows", x.windows(), count);
        window(x, 0, 0, 0, 4, 0, 0);
        window(x, count - 1, 7, 95, 99, 95, 0);
    }

    private static void resultsAgainAfterACrash() {
        Streamloom x = single("sum fixed 10 late 20 back");
        feed(x, 0, 0, 5, 1);
        feed(x, 0, 0, 12, 2);
        x.barrier();
        feed(x, 0, 0, 6, 4);
        x.complete(0);
        due("gone", x.crash(), 2);
        window(x, 0, 0, 0, 10, 1, 1);
        plan(x, "sum fixed 10 late 20 diff", true);
        due("by the plan that stays", x.step(0), 1);
        result(x, 1, 0, 0, 10, 4, Streamloom.ADD);
        x.crash();
        due("the plan stays", x.step(0), 1);
        result(x, 1, 0, 0, 10, 4, Streamloom.ADD);
        due("total", x.total(0, 0), 5);
        due("total anew", x.totalAnew(0, 0), 5);
    }

    private static void promise25() {
        about = "promise 25";
        Streamloom x = single("sum fixed 5");
        throwsDue("0", ARGUMENT, () -> x.workers(0));
        throwsDue("5", ARGUMENT, () -> x.workers(5));
        due("no windows", x.workers(4), 0);
        due("back", x.workers(1), 0);
        for (int key = 0; key < 8; key++) {
            feed(x, 0, key, 1, 1);
        }
        feed(x, 0, 7, 5, 1);
        Streamloom y = single("sum fixed 5 late 99");
        for (int key = 0; key < 8; key++) {
            feed(y, 0, key, 1, 1);
        }
        feed(y, 0, 7, 5, 1);
        due("the window of 7 is left", x.windows(), 1);
        due("with the second one", x.workers(2), 1);
        due("with the second one", x.load(1), 1);
        due("9 windows", y.windows(), 9);
        due("the same", y.workers(1), 0);
        due("1 to 2: keys 4 to 7", y.workers(2), 5);
        due("2 to 3: keys 3, 6 and 7", y.workers(3), 4);
        due("3 to 4: keys 2, 4 to 7", y.workers(4), 6);
        due("4 to 1: keys 2 to 7", y.workers(1), 7);
        due("the windows stay", y.windows(), 9);
    }

    private static void promise26() {
        about = "promise 26";
        Streamloom y = single("sum fixed 5 late 99");
        for (int key = 0; key < 8; key++) {
            feed(y, 0, key, 1, 1);
        }
        feed(y, 0, 7, 5, 1);
        int[][] loads = {{9}, {4, 5}, {3, 3, 3}, {2, 2, 2, 3}};
        for (int workers = 1; workers <= 4; workers++) {
            y.workers(workers);
            for (int worker = 0; worker < workers; worker++) {
                due("load " + worker + " of " + workers, y.load(worker), loads[workers - 1][worker]);
            }
            int most = workers;
            throwsDue("load " + most + " of " + most, INDEX, () -> y.load(most));
            throwsDue("load -1", INDEX, () -> y.load(-1));
        }
    }
}
