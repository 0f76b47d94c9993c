import java.util.NoSuchElementException;

/** What tests of Streamloom share: a text is typed, a query planned, an event told and read, an answer looked at. */
class LoomChecks {
    static final int SET = Streamloom.SET;
    static final int ADD = Streamloom.ADD;
    static final int BACK = Streamloom.BACK;
    static final int LEAST = Integer.MIN_VALUE;
    static final int MOST = Integer.MAX_VALUE;

    static final Class<IndexOutOfBoundsException> INDEX = IndexOutOfBoundsException.class;
    static final Class<IllegalArgumentException> ARGUMENT = IllegalArgumentException.class;
    static final Class<IllegalStateException> STATE = IllegalStateException.class;
    static final Class<NoSuchElementException> ELEMENT = NoSuchElementException.class;

    private static Checks checks;
    static String about = "";

    static void begin(String test) {
        checks = new Checks(test);
    }

    static void end() {
        checks.end();
    }

    // ---- what is due

    static void due(String what, long got, long want) {
        checks.due(about + ": " + what, got, want);
    }

    static void due(String what, String got, String want) {
        if (got.equals(want)) {
            checks.due(what, 0, 0);
        } else {
            checks.fail(about + ": " + what + " answered\n  " + got + ", due is\n  " + want);
        }
    }

    static void throwsDue(String what, Class<? extends RuntimeException> want, Checks.Call call) {
        checks.throwsDue(about + ": " + what, want, call);
    }

    static void window(Streamloom x, int window, int key, int begin, int end, int total, int isTold) {
        int[] want = {key, begin, end, total, isTold};
        for (int what = 0; what < 5; what++) {
            due("window(" + window + ", " + what + ")", x.window(window, what), want[what]);
        }
    }

    static void result(Streamloom x, int result, int key, int begin, int end, int value, int kind) {
        int[] want = {key, begin, end, value, kind};
        for (int what = 0; what < 5; what++) {
            due("result(" + result + ", " + what + ")", x.result(result, what), want[what]);
        }
    }

    // ---- what is done

    static void type(Streamloom x, String text) {
        for (int i = 0; i < text.length(); i++) {
            x.type(text.charAt(i));
        }
    }

    static int faultOf(String text) {
        Streamloom x = new Streamloom();
        type(x, text);
        return x.fault();
    }

    static int plan(Streamloom x, String query, boolean isKept) {
        x.wipe();
        type(x, query);
        return x.plan(isKept);
    }

    static Streamloom planned(String query) {
        Streamloom x = new Streamloom();
        plan(x, query, false);
        return x;
    }

    /** With partition 0 alone, the others being idle. */
    static Streamloom single(String query) {
        Streamloom x = planned(query);
        x.idle(1, true);
        x.idle(2, true);
        return x;
    }

    static int feed(Streamloom x, int partition, int key, int time, int value) {
        x.event(partition, key, time, value);
        return x.step(partition);
    }

    // ---- what is seen

    /** An answer, or the name of the exception. */
    static String answer(Checks.Call call) {
        try {
            return Long.toString(call.make());
        } catch (RuntimeException e) {
            return e.getClass().getSimpleName();
        }
    }

    /** What is read, the watermark, what is too late, and all windows: what a snapshot keeps and can be asked. */
    static String lookAtState(Streamloom x) {
        StringBuilder seen = new StringBuilder("read");
        for (int partition = 0; partition < 3; partition++) {
            seen.append(' ').append(x.read(partition));
        }
        seen.append(", watermark ").append(x.watermark()).append(", too late ").append(x.tooLate()).append(", windows");
        for (int window = 0; window < x.windows(); window++) {
            seen.append(' ');
            for (int what = 0; what < 5; what++) {
                seen.append(what == 0 ? "" : ":").append(x.window(window, what));
            }
        }
        return seen.toString();
    }

    /** The results from a first one on. */
    static String lookAtResults(Streamloom x, int first) {
        StringBuilder seen = new StringBuilder("results");
        for (int result = first; result < x.results(); result++) {
            seen.append(' ');
            for (int what = 0; what < 5; what++) {
                seen.append(what == 0 ? "" : ":").append(x.result(result, what));
            }
        }
        return seen.toString();
    }
}
