import java.util.Random;

/**
 * Runs of the calls that an object is good for, each made on the program and on the model; their answers must be the
 * same.
 */
public final class ModelTest {
    private static final int RUNS = 6000;
    private static final int CALLS = 512;
    private static final int CALLS_TO_LOOK = 120;
    private static final int TEXTS = 6;
    private static final String[] WORDS = {"sum", "count", "max", "if", "<", "=", ">", "0", "-0", "5", "-12", "99",
        "join", "fixed", "sliding", "session", "late", "anew", "diff", "back", "8 4", "00", "100", "-", "x", "fix"};

    private final Checks checks;
    private final Random random;
    private final Streamloom program = new Streamloom();
    private final Model model = new Model();
    private final int spread;
    private int clock;
    private int calls;
    private String call = "";

    private ModelTest(Checks checks, long seed) {
        this.checks = checks;
        this.random = new Random(seed);
        this.spread = 1 + random.nextInt(40);
    }

    public static void main(String[] args) {
        Checks checks = new Checks("ModelTest");
        for (int seed = 0; seed < RUNS && !checks.hasFailed(); seed++) {
            ModelTest test = new ModelTest(checks, seed);
            test.open();
            while (test.calls < CALLS - CALLS_TO_LOOK && !checks.hasFailed()) {
                test.change();
                test.ask();
            }
            test.look();
            if (checks.hasFailed()) {
                System.out.println("in run " + seed);
            }
        }
        for (int seed = 0; seed < RUNS && !checks.hasFailed(); seed++) {
            new ModelTest(checks, seed).texts();
        }
        checks.end();
    }

    /** A call's answer, or a number for the exception that it throws. */
    private static long answer(Checks.Call one) {
        try {
            return one.make();
        } catch (RuntimeException e) {
            return Long.MIN_VALUE + e.getClass().getName().hashCode();
        }
    }

    private void same(String name, Checks.Call due, Checks.Call got) {
        if (calls >= CALLS) {
            return;
        }
        calls++;
        checks.due("behind " + call + ": " + name, answer(got), answer(due));
    }

    private void make(String name, Checks.Call due, Checks.Call got) {
        call = name;
        same("itself", due, got);
    }

    private int below(int most) {
        return random.nextInt(most);
    }

    private boolean oneOf(int many) {
        return below(many) == 0;
    }

    /** A number within a range, seldom one just outside of it. */
    private int around(int least, int most) {
        if (oneOf(60)) {
            return oneOf(2) ? least - 1 : most + 1;
        }
        return least + below(Math.max(1, most - least + 1));
    }

    private String shape() {
        int slide = 1 + below(9);
        switch (below(3)) {
            case 0: return "fixed " + (1 + below(20));
            case 1: return "sliding " + slide * (1 + below(oneOf(20) ? 6 : 4)) + " " + slide;
            default: return "session " + (1 + below(15));
        }
    }

    private String query(String fold, String shape, int late) {
        String[] modes = {"", " anew", " diff", " back"};
        String[] signs = {"<", "=", ">"};
        String filter = oneOf(3) ? " if " + signs[below(3)] + " " + (below(20) - 10) : "";
        return fold + filter + (oneOf(2) ? " join" : "") + " " + shape
                + (late == 0 && oneOf(2) ? "" : " late " + late) + modes[below(4)] + (oneOf(5) ? "  " : "");
    }

    private String fold = "sum";
    private String windows = "fixed 5";
    private int late = 9;

    private void type(String text) {
        make("wipe", model::wipe, program::wipe);
        for (char character : text.toCharArray()) {
            make("type", () -> model.type(character), () -> program.type(character));
        }
        make("fault of '" + text + "'", model::fault, program::fault);
    }

    private void plan(boolean isKept) {
        if (!isKept || oneOf(8)) {
            fold = WORDS[below(3)];
            windows = shape();
        }
        late = isKept ? Math.max(0, late - 1 + (oneOf(3) ? 1 : 0) - below(3)) : below(30);
        String text = query(fold, windows, late);
        type(text);
        make("plan of '" + text + "', " + isKept, () -> model.plan(isKept), () -> program.plan(isKept));
    }

    private void open() {
        if (oneOf(10)) {
            return;
        }
        plan(false);
        for (int partition = 0; partition < 3; partition++) {
            if (oneOf(2)) {
                setIdle(partition, true);
            }
        }
    }

    private void setIdle(int partition, boolean isIdle) {
        make("idle " + partition + " " + isIdle, () -> model.idle(partition, isIdle),
                () -> program.idle(partition, isIdle));
    }

    private void step(int partition) {
        make("step " + partition, () -> model.step(partition), () -> program.step(partition));
    }

    private void tell() {
        clock = Math.min(999, clock + below(4));
        int partition = around(0, 2);
        int key = oneOf(2) ? below(2) : around(0, 7);
        int time = oneOf(50) ? around(0, 999) : Math.max(0, clock - below(spread));
        int value = oneOf(4) ? around(-99, 99) : below(20) - 10;
        make("event " + partition + " " + key + " " + time + " " + value,
                () -> model.event(partition, key, time, value), () -> program.event(partition, key, time, value));
    }

    private void change() {
        int kind = below(100);
        if (kind < 35) {
            tell();
        } else if (kind < 78) {
            step(around(0, 2));
        } else if (kind < 82) {
            int partition = around(0, 2);
            int bound = oneOf(5) ? around(0, 99) : below(10);
            make("bound " + partition + " " + bound, () -> model.bound(partition, bound),
                    () -> program.bound(partition, bound));
        } else if (kind < 86) {
            setIdle(around(0, 2), oneOf(2));
        } else if (kind < 89) {
            int key = around(0, 7);
            int time = Math.max(0, clock - below(50));
            int value = around(-99, 99);
            make("table " + key + " " + time + " " + value, () -> model.table(key, time, value),
                    () -> program.table(key, time, value));
        } else if (kind < 93) {
            make("barrier", model::barrier, program::barrier);
        } else if (kind < 96) {
            int snapshot = below(12) - 1;
            make("complete " + snapshot, () -> model.complete(snapshot), () -> program.complete(snapshot));
        } else if (kind < 97) {
            make("crash", model::crash, program::crash);
        } else if (kind < 98) {
            int workers = around(1, 4);
            make("workers " + workers, () -> model.workers(workers), () -> program.workers(workers));
        } else {
            plan(oneOf(12) ? false : true);
        }
    }

    /** One question of those that look() asks. */
    private void ask() {
        int key = oneOf(2) ? below(2) : around(0, 7);
        int begin = clock - below(60) + 5;
        int place = oneOf(2) ? model.results() - 1 - below(3) : around(0, model.results() - 1);
        int window = around(0, Math.max(0, model.windows() - 1));
        int kind = around(0, 4);
        int number = around(0, 3);
        switch (below(10)) {
            case 0: same("watermark", model::watermark, program::watermark); break;
            case 1: same("tooLate", model::tooLate, program::tooLate); break;
            case 2: same("windows", model::windows, program::windows); break;
            case 3: same("results", model::results, program::results); break;
            case 4: same("committed", model::committed, program::committed); break;
            case 5: same("load " + number, () -> model.load(number), () -> program.load(number)); break;
            case 6: same("total " + key + " " + begin, () -> model.total(key, begin),
                    () -> program.total(key, begin)); break;
            case 7: same("totalAnew " + key + " " + begin, () -> model.totalAnew(key, begin),
                    () -> program.totalAnew(key, begin)); break;
            case 8: same("window " + window + " " + kind, () -> model.window(window, kind),
                    () -> program.window(window, kind)); break;
            default: same("result " + place + " " + kind, () -> model.result(place, kind),
                    () -> program.result(place, kind)); break;
        }
    }

    private void look() {
        same("watermark", model::watermark, program::watermark);
        same("tooLate", model::tooLate, program::tooLate);
        same("windows", model::windows, program::windows);
        same("results", model::results, program::results);
        same("committed", model::committed, program::committed);
        same("doubtful", model::doubtful, program::doubtful);
        for (int i = -1; i <= 4; i++) {
            int number = i;
            same("read " + number, () -> model.read(number), () -> program.read(number));
            same("load " + number, () -> model.load(number), () -> program.load(number));
        }
        int from = Math.max(-1, model.results() - 12);
        for (int i = from; i <= model.results(); i++) {
            int result = i;
            int kind = around(0, 4);
            same("result " + result + " " + kind, () -> model.result(result, kind),
                    () -> program.result(result, kind));
        }
        for (int i = -1; i <= model.windows(); i++) {
            int window = i;
            int kind = around(0, 4);
            same("window " + window + " " + kind, () -> model.window(window, kind),
                    () -> program.window(window, kind));
        }
        for (int i = 0; i < 10; i++) {
            int key = oneOf(2) ? below(2) : around(0, 7);
            int begin = clock - below(60) + 5;
            same("total " + key + " " + begin, () -> model.total(key, begin), () -> program.total(key, begin));
            same("totalAnew " + key + " " + begin, () -> model.totalAnew(key, begin),
                    () -> program.totalAnew(key, begin));
        }
    }

    /** Texts that are nearly queries: a word or a character of one is left out, doubled or another one. */
    private void texts() {
        for (int i = 0; i < TEXTS; i++) {
            StringBuilder text = new StringBuilder(query(WORDS[below(3)], shape(), below(100)));
            int place = below(text.length());
            switch (below(7)) {
                case 0: text.deleteCharAt(place); break;
                case 1: text.insert(place, text.charAt(place)); break;
                case 2: text.setCharAt(place, (char) (32 + below(95))); break;
                case 3: text.setLength(place); break;
                case 4: text.insert(place, " " + WORDS[below(WORDS.length)] + " "); break;
                case 5: text.append(' ').append(WORDS[below(WORDS.length)]); break;
                default: break;
            }
            type(text.toString());
            boolean isKept = oneOf(2);
            make("plan of '" + text + "'", () -> model.plan(isKept), () -> program.plan(isKept));
            make("wipe", model::wipe, program::wipe);
        }
    }
}
