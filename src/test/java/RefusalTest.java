import java.util.ArrayList;
import java.util.List;
import java.util.function.Consumer;

/**
 * "A call that throws an exception changes nothing; if several exceptions apply, the one that its throws clause names
 * first is thrown": every refused call in many scenes. Each is made on a new object that is brought to its scene; all
 * that can be asked and done behind it must be as on one where no call was refused.
 */
public final class RefusalTest extends LoomChecks {
    private static final int[] PARTITIONS = {LEAST, -1, 1, 3, MOST};
    private static final int[] KEYS = {LEAST, -1, 3, 8, MOST};
    private static final int[] TIMES = {LEAST, -1, 5, 1000, MOST};
    private static final int[] VALUES = {LEAST, -100, 5, 100, MOST};
    private static final int[] WHATS = {LEAST, -1, 3, 5, MOST};

    private static final class Scene {
        private final String name;
        private final Consumer<Streamloom> recipe;
        private boolean isPlanned = false;
        private boolean hasSessions = false;
        private boolean isOpen = false;
        private boolean isFullOfEvents = false;
        private boolean isFullOfValues = false;
        private boolean isFullOfText = false;
        private String unread = "";
        private String inDoubt = "";
        private int workers = 1;
        /** Null if the plan is not refused. */
        private Class<? extends RuntimeException> anew = ARGUMENT;
        private Class<? extends RuntimeException> kept = ARGUMENT;

        Scene(String name, Consumer<Streamloom> recipe) {
            this.name = name;
            this.recipe = recipe;
        }

        Streamloom make() {
            Streamloom x = new Streamloom();
            recipe.accept(x);
            return x;
        }
    }

    private static final class Refused {
        private final String name;
        private final Class<? extends RuntimeException> want;
        private final Call call;

        Refused(String name, Class<? extends RuntimeException> want, Call call) {
            this.name = name;
            this.want = want;
            this.call = call;
        }
    }

    private interface Call {
        int make(Streamloom x);
    }

    public static void main(String[] args) {
        begin("RefusalTest");
        List<Scene> scenes = new ArrayList<>();
        withoutAPlan(scenes);
        withAPlan(scenes);
        full(scenes);
        withSnapshots(scenes);
        for (Scene scene : scenes) {
            about = scene.name;
            String due = probe(scene.make());
            due("the same twice", probe(scene.make()), due);
            List<Refused> refused = new ArrayList<>();
            texts(scene, refused);
            told(scene, refused);
            steps(scene, refused);
            asked(scene, refused);
            snapshots(scene, refused);
            for (Refused one : refused) {
                Streamloom x = scene.make();
                throwsDue(one.name, one.want, () -> one.call.make(x));
                due("behind " + one.name, probe(x), due);
            }
        }
        end();
    }

    // ---- the scenes

    private static void withoutAPlan(List<Scene> scenes) {
        scenes.add(new Scene("a new object", x -> { }));
        Scene told = new Scene("all but a plan", x -> {
            type(x, "sum fixed");
            x.event(0, 1, 3, 5);
            x.event(1, 3, 4, 6);
            x.table(1, 0, 7);
            x.bound(0, 2);
            x.idle(2, true);
            x.workers(2);
        });
        told.workers = 2;
        scenes.add(told);
        Scene query = new Scene("a query that is not planned", x -> type(x, "sum fixed 5 late 3"));
        query.anew = null;
        query.kept = STATE;
        scenes.add(query);
        Scene unfit = new Scene("a slide that does not fit, and no plan", x -> type(x, "sum sliding 8 3"));
        scenes.add(unfit);
    }

    private static void begun(Streamloom x, String query) {
        plan(x, query, false);
        x.idle(1, true);
        x.idle(2, true);
        x.bound(0, 1);
        x.table(1, 0, 7);
        feed(x, 0, 1, 3, 5);
        feed(x, 0, 3, 7, 6);
        x.barrier();
        feed(x, 0, 1, 12, 7);
        x.complete(0);
        x.barrier();
        feed(x, 0, 3, 1, 8);
        feed(x, 0, 3, 16, 9);
        feed(x, 0, 1, 13, 2);
    }

    private static void withAPlan(List<Scene> scenes) {
        Scene planned = new Scene("a plan, and no event", x -> plan(x, "sum fixed 5", false));
        planned.isPlanned = true;
        scenes.add(planned);
        Scene fixed = new Scene("fixed windows in the midst", x -> {
            begun(x, "sum join fixed 5 late 4");
            x.event(0, 1, 20, 3);
            x.event(1, 1, 20, 3);
            x.workers(3);
            type(x, "sum fixed 9 back");
        });
        fixed.isPlanned = true;
        fixed.unread = "01";
        fixed.inDoubt = "1";
        fixed.workers = 3;
        fixed.anew = null;
        fixed.kept = STATE;
        scenes.add(fixed);
        Scene sliding = new Scene("sliding windows in the midst", x -> {
            begun(x, "max if > -50 sliding 10 5 late 4 back");
            x.event(2, 1, 20, 3);
            type(x, "max sliding 5 1 late 9");
        });
        sliding.isPlanned = true;
        sliding.unread = "2";
        sliding.inDoubt = "1";
        scenes.add(sliding);
        Scene session = new Scene("sessions in the midst, and a greater lateness", x -> {
            begun(x, "count session 5 late 4 diff");
            type(x, "count session 5 late 5");
        });
        session.isPlanned = true;
        session.hasSessions = true;
        session.inDoubt = "1";
        session.anew = null;
        session.kept = STATE;
        scenes.add(session);
        Scene other = new Scene("another one of sum, count and max", x -> {
            begun(x, "count fixed 5 late 4 diff");
            type(x, "max fixed 5 late 4 diff");
        });
        other.isPlanned = true;
        other.inDoubt = "1";
        other.anew = null;
        other.kept = STATE;
        scenes.add(other);
    }

    private static void full(List<Scene> scenes) {
        Scene events = new Scene("300 events", x -> {
            plan(x, "sum fixed 5", false);
            for (int i = 0; i < 300; i++) {
                x.event(i % 2, 1, 1, 1);
            }
            x.step(0);
        });
        events.isPlanned = true;
        events.isFullOfEvents = true;
        events.unread = "01";
        scenes.add(events);
        Scene all = new Scene("300 events, 60 values, a text of 60, and no plan", x -> {
            for (int i = 0; i < 300; i++) {
                x.event(2, 1, 1, 1);
            }
            for (int i = 0; i < 60; i++) {
                x.table(1, i, 1);
            }
            type(x, "sum fixed 5".repeat(6).substring(0, 60));
        });
        all.isFullOfEvents = true;
        all.isFullOfValues = true;
        all.isFullOfText = true;
        scenes.add(all);
        Scene values = new Scene("60 values", x -> {
            plan(x, "sum join fixed 5", false);
            for (int i = 0; i < 60; i++) {
                x.table(i % 8, i, i);
            }
            x.event(0, 1, 30, 1);
        });
        values.isPlanned = true;
        values.isFullOfValues = true;
        values.unread = "0";
        scenes.add(values);
        Scene text = new Scene("a query of 60", x -> {
            begun(x, "sum join fixed 5 late 4");
            type(x, "sum if < 50" + " ".repeat(35) + "fixed 5 late 9");
        });
        text.isPlanned = true;
        text.inDoubt = "1";
        text.isFullOfText = true;
        text.anew = null;
        text.kept = STATE;
        scenes.add(text);
    }

    private static void tellThirty(Streamloom x) {
        plan(x, "sum fixed 1 late 2", false);
        x.idle(1, true);
        x.idle(2, true);
        for (int time = 0; time <= 30; time++) {
            feed(x, 0, time % 8, time, 1);
        }
    }

    private static void withSnapshots(List<Scene> scenes) {
        Scene open = new Scene("30 open, and an event", x -> {
            tellThirty(x);
            x.event(0, 1, 31, 1);
            x.event(1, 1, 31, 1);
        });
        open.isPlanned = true;
        open.isOpen = true;
        open.unread = "01";
        scenes.add(open);
        Scene read = new Scene("30 open, and no event", x -> tellThirty(x));
        read.isPlanned = true;
        read.isOpen = true;
        scenes.add(read);
        Scene five = new Scene("5 in doubt", x -> {
            begun(x, "sum fixed 5 late 9 back");
            x.barrier();
            x.event(0, 1, 21, 1);
            x.barrier();
            x.step(0);
            x.barrier();
            x.barrier();
        });
        five.isPlanned = true;
        five.inDoubt = "12345";
        scenes.add(five);
        Scene crashed = new Scene("behind a crash", x -> {
            begun(x, "sum fixed 5 late 9 back");
            x.crash();
            x.step(0);
            x.barrier();
        });
        crashed.isPlanned = true;
        crashed.unread = "0";
        crashed.inDoubt = "2";
        scenes.add(crashed);
    }

    // ---- the refused calls

    private static boolean within(int number, int least, int most) {
        return number >= least && number <= most;
    }

    private static void texts(Scene scene, List<Refused> refused) {
        char[] outside = {0, 10, 31, 127, 255, 256 + 'a', 65535};
        for (char character : outside) {
            refused.add(new Refused("type(" + (int) character + ")", ARGUMENT, x -> x.type(character)));
        }
        char[] inside = {32, 'a', 126};
        for (char character : inside) {
            if (scene.isFullOfText) {
                refused.add(new Refused("type(" + (int) character + ")", STATE, x -> x.type(character)));
            }
        }
        if (scene.anew != null) {
            refused.add(new Refused("plan(false)", scene.anew, x -> x.plan(false)));
        }
        if (scene.kept != null) {
            refused.add(new Refused("plan(true)", scene.kept, x -> x.plan(true)));
        }
    }

    private static void told(Scene scene, List<Refused> refused) {
        for (int key : KEYS) {
            for (int time : TIMES) {
                for (int value : VALUES) {
                    boolean isRight = within(time, 0, 999) && within(value, -99, 99);
                    for (int partition : PARTITIONS) {
                        boolean isThere = within(partition, 0, 2) && within(key, 0, 7);
                        if (!isThere || !isRight || scene.isFullOfEvents) {
                            String name = "event(" + partition + ", " + key + ", " + time + ", " + value + ")";
                            refused.add(new Refused(name, !isThere ? INDEX : !isRight ? ARGUMENT : STATE,
                                    x -> x.event(partition, key, time, value)));
                        }
                    }
                    boolean isThere = within(key, 0, 7);
                    if (!isThere || !isRight || scene.isFullOfValues) {
                        refused.add(new Refused("table(" + key + ", " + time + ", " + value + ")",
                                !isThere ? INDEX : !isRight ? ARGUMENT : STATE, x -> x.table(key, time, value)));
                    }
                }
            }
        }
        int[] bounds = {LEAST, -1, 50, 100, MOST};
        for (int partition : PARTITIONS) {
            boolean isThere = within(partition, 0, 2);
            for (int bound : bounds) {
                if (!isThere || !within(bound, 0, 99)) {
                    refused.add(new Refused("bound(" + partition + ", " + bound + ")", !isThere ? INDEX : ARGUMENT,
                            x -> x.bound(partition, bound)));
                }
            }
            if (!isThere) {
                refused.add(new Refused("idle(" + partition + ", true)", INDEX, x -> x.idle(partition, true)));
                refused.add(new Refused("idle(" + partition + ", false)", INDEX, x -> x.idle(partition, false)));
            }
        }
        int[] workers = {LEAST, -1, 0, 5, MOST};
        for (int count : workers) {
            refused.add(new Refused("workers(" + count + ")", ARGUMENT, x -> x.workers(count)));
        }
    }

    private static void steps(Scene scene, List<Refused> refused) {
        int[] outside = {LEAST, -1, 3, MOST};
        for (int partition : outside) {
            refused.add(new Refused("step(" + partition + ")", INDEX, x -> x.step(partition)));
            refused.add(new Refused("read(" + partition + ")", INDEX, x -> x.read(partition)));
        }
        for (int partition = 0; partition < 3; partition++) {
            int inside = partition;
            if (!scene.isPlanned || scene.isOpen) {
                refused.add(new Refused("step(" + inside + ")", STATE, x -> x.step(inside)));
            } else if (scene.unread.indexOf((char) ('0' + inside)) < 0) {
                refused.add(new Refused("step(" + inside + ")", ELEMENT, x -> x.step(inside)));
            }
        }
    }

    private static void asked(Scene scene, List<Refused> refused) {
        Streamloom twin = scene.make();
        int windows = twin.windows();
        int results = twin.results();
        for (int what : WHATS) {
            int[] places = {LEAST, -1, 0, windows - 1, windows, MOST};
            for (int place : places) {
                boolean isThere = within(place, 0, windows - 1);
                if (!isThere || !within(what, 0, 4)) {
                    refused.add(new Refused("window(" + place + ", " + what + ")", isThere ? ARGUMENT : INDEX,
                            x -> x.window(place, what)));
                }
            }
            int[] rows = {LEAST, -1, 0, results - 1, results, MOST};
            for (int row : rows) {
                boolean isThere = within(row, 0, results - 1);
                if (!isThere || !within(what, 0, 4)) {
                    refused.add(new Refused("result(" + row + ", " + what + ")", isThere ? ARGUMENT : INDEX,
                            x -> x.result(row, what)));
                }
            }
        }
        for (int key : KEYS) {
            boolean isThere = within(key, 0, 7);
            if (!isThere) {
                refused.add(new Refused("total(" + key + ", 0)", INDEX, x -> x.total(key, 0)));
            }
            if (!isThere || !scene.isPlanned || scene.hasSessions) {
                refused.add(new Refused("totalAnew(" + key + ", 0)", isThere ? STATE : INDEX,
                        x -> x.totalAnew(key, 0)));
            }
        }
        int[] workers = {LEAST, -1, scene.workers, 4, MOST};
        for (int worker : workers) {
            refused.add(new Refused("load(" + worker + ")", INDEX, x -> x.load(worker)));
        }
    }

    private static void snapshots(Scene scene, List<Refused> refused) {
        if (!scene.isPlanned || scene.inDoubt.length() == 5) {
            refused.add(new Refused("barrier()", STATE, x -> x.barrier()));
        }
        if (!scene.isPlanned) {
            refused.add(new Refused("crash()", STATE, x -> x.crash()));
        }
        int[] numbers = {LEAST, -2, -1, 0, 1, 2, 3, 4, 5, 6, MOST};
        for (int number : numbers) {
            boolean isInDoubt = within(number, 0, 9) && scene.inDoubt.indexOf((char) ('0' + number)) >= 0;
            if (!isInDoubt) {
                refused.add(new Refused("complete(" + number + ")", INDEX, x -> x.complete(number)));
            }
        }
    }

    // ---- what is asked and done behind them

    private static String probe(Streamloom x) {
        StringBuilder seen = new StringBuilder(lookAtState(x));
        seen.append('\n').append(lookAtResults(x, Math.max(0, x.results() - 4)));
        add(seen, "committed", () -> x.committed());
        add(seen, "in doubt", () -> x.doubtful());
        add(seen, "fault", () -> x.fault());
        for (int key = 1; key <= 3; key += 2) {
            int one = key;
            add(seen, "total", () -> x.total(one, 0));
            add(seen, "total anew", () -> x.totalAnew(one, 5));
        }
        for (int worker = 0; worker < 5; worker++) {
            int one = worker;
            add(seen, "load", () -> x.load(one));
        }
        goOn(x, seen);
        for (int number = 0; number < 7; number++) {
            int one = number;
            add(seen, "complete", () -> x.complete(one));
        }
        add(seen, "committed", () -> x.committed());
        add(seen, "crash", () -> x.crash());
        seen.append('\n').append(lookAtState(x));
        add(seen, "kept", () -> x.plan(true));
        add(seen, "anew", () -> x.plan(false));
        add(seen, "wipe", () -> x.wipe());
        add(seen, "barrier", () -> x.barrier());
        return seen.toString();
    }

    private static void goOn(Streamloom x, StringBuilder seen) {
        add(seen, "step", () -> x.step(0));
        add(seen, "barrier", () -> x.barrier());
        add(seen, "value", () -> x.table(1, 2, 30));
        for (int i = 0; i < 2; i++) {
            for (int partition = 0; partition < 3; partition++) {
                int one = partition;
                add(seen, "event", () -> x.event(one, 1, 18 + one, 1));
                add(seen, "step", () -> x.step(one));
                add(seen, "watermark", () -> x.watermark());
                add(seen, "bound", () -> x.bound(one, 3));
            }
        }
        add(seen, "idle", () -> x.idle(1, true));
        add(seen, "idle", () -> x.idle(2, true));
        add(seen, "results", () -> x.results());
        seen.append('\n').append(lookAtState(x));
        add(seen, "workers", () -> x.workers(4));
    }

    private static void add(StringBuilder seen, String name, Checks.Call call) {
        seen.append(", ").append(name).append(' ').append(answer(call));
    }
}
