import java.util.ArrayList;
import java.util.Comparator;
import java.util.HashSet;
import java.util.List;
import java.util.NoSuchElementException;
import java.util.Set;
import java.util.regex.Matcher;
import java.util.regex.Pattern;

/**
 * The document in its most naive form, with the Java library: a window holds the amounts that came into it and
 * every total is reckoned from them, a snapshot is a deep copy. It shares no code with the program.
 */
final class Model {
    private static final String NUMBER = "([1-9][0-9]?)";
    private static final Pattern QUERY = Pattern.compile("(sum|count|max)(?: +if +([<=>]) +(-?(?:0|[1-9][0-9]?)))?"
            + "( +join)?(?: +(fixed|session) +" + NUMBER + "| +(sliding) +" + NUMBER + " +" + NUMBER + ")"
            + "(?: +late +(0|[1-9][0-9]?))?(?: +(anew|diff|back))? *");

    private static final class Plan {
        String fold;
        String sign;
        int limit;
        boolean join;
        String shape;
        int size;
        int slide;
        int late;
        String mode;

        List<Integer> numbers() {
            return List.of(size, slide);
        }
    }

    private static final class Event {
        int key;
        int time;
        int value;
        boolean counted;
        int amount;
        Set<Integer> begins = new HashSet<>();
    }

    private static final class Window {
        int key;
        int begin;
        int end;
        List<Integer> amounts = new ArrayList<>();
        boolean told;
        int toldWith;

        Window copy() {
            Window copy = new Window();
            copy.key = key;
            copy.begin = begin;
            copy.end = end;
            copy.amounts.addAll(amounts);
            copy.told = told;
            copy.toldWith = toldWith;
            return copy;
        }
    }

    private static final class State {
        int number = -1;
        int results;
        int[] read = new int[3];
        int watermark = -1;
        int tooLate;
        List<Window> windows = new ArrayList<>();

        State copy() {
            State copy = new State();
            copy.number = number;
            copy.results = results;
            copy.read = read.clone();
            copy.watermark = watermark;
            copy.tooLate = tooLate;
            for (Window window : windows) {
                copy.windows.add(window.copy());
            }
            return copy;
        }
    }

    private final StringBuilder text = new StringBuilder();
    private final List<List<Event>> events = List.of(new ArrayList<>(), new ArrayList<>(), new ArrayList<>());
    private final List<int[]> table = new ArrayList<>();
    private final int[] bounds = new int[3];
    private final boolean[] idle = new boolean[3];
    private final List<int[]> results = new ArrayList<>();
    private final List<State> doubtful = new ArrayList<>();
    private Plan plan;
    private State state = new State();
    private State completed = new State();
    private int taken;
    private int workers = 1;

    private static void index(boolean holds) {
        if (!holds) {
            throw new IndexOutOfBoundsException();
        }
    }

    private static void argument(boolean holds) {
        if (!holds) {
            throw new IllegalArgumentException();
        }
    }

    private static void state(boolean holds) {
        if (!holds) {
            throw new IllegalStateException();
        }
    }

    private static boolean within(int number, int least, int most) {
        return least <= number && number <= most;
    }

    int type(char character) {
        argument(within(character, 32, 126));
        state(text.length() < 60);
        return text.append(character).length();
    }

    int wipe() {
        int length = text.length();
        text.setLength(0);
        return length;
    }

    int fault() {
        for (int length = 1; length <= text.length(); length++) {
            Matcher matcher = QUERY.matcher(text.substring(0, length));
            if (!matcher.matches() && !matcher.hitEnd()) {
                return length - 1;
            }
        }
        return QUERY.matcher(text).matches() ? -1 : text.length();
    }

    int plan(boolean isKept) {
        Matcher matcher = QUERY.matcher(text);
        argument(matcher.matches());
        Plan next = new Plan();
        next.fold = matcher.group(1);
        next.sign = matcher.group(2);
        next.limit = matcher.group(3) == null ? 0 : Integer.parseInt(matcher.group(3));
        next.join = matcher.group(4) != null;
        boolean slides = matcher.group(7) != null;
        next.shape = slides ? "sliding" : matcher.group(5);
        next.size = Integer.parseInt(matcher.group(slides ? 8 : 6));
        next.slide = slides ? Integer.parseInt(matcher.group(9)) : 0;
        next.late = matcher.group(10) == null ? 0 : Integer.parseInt(matcher.group(10));
        next.mode = matcher.group(11) == null ? "anew" : matcher.group(11);
        argument(!slides || next.size % next.slide == 0 && next.size / next.slide <= 4);
        state(!isKept || plan != null && plan.fold.equals(next.fold) && plan.shape.equals(next.shape)
                && plan.numbers().equals(next.numbers()) && next.late <= plan.late);
        text.setLength(0);
        plan = next;
        if (!isKept) {
            state = new State();
            completed = new State();
            results.clear();
            doubtful.clear();
            taken = 0;
        }
        return state.windows.size();
    }

    int event(int partition, int key, int time, int value) {
        index(within(partition, 0, 2) && within(key, 0, 7));
        argument(within(time, 0, 999) && within(value, -99, 99));
        state(events.get(0).size() + events.get(1).size() + events.get(2).size() < 300);
        Event event = new Event();
        event.key = key;
        event.time = time;
        event.value = value;
        events.get(partition).add(event);
        return events.get(partition).size();
    }

    int bound(int partition, int bound) {
        index(within(partition, 0, 2));
        argument(within(bound, 0, 99));
        int before = bounds[partition];
        bounds[partition] = bound;
        return before;
    }

    int idle(int partition, boolean isIdle) {
        index(within(partition, 0, 2));
        idle[partition] = isIdle;
        if (plan != null) {
            findWatermark();
        }
        return state.watermark;
    }

    int table(int key, int time, int value) {
        index(within(key, 0, 7));
        argument(within(time, 0, 999) && within(value, -99, 99));
        state(table.size() < 60);
        table.add(new int[] {key, time, value});
        return table.size();
    }

    int step(int partition) {
        index(within(partition, 0, 2));
        state(plan != null);
        int closed = doubtful.isEmpty() ? completed.results : doubtful.get(doubtful.size() - 1).results;
        state(results.size() - closed < 30);
        if (state.read[partition] == events.get(partition).size()) {
            throw new NoSuchElementException();
        }
        int before = results.size();
        Event event = events.get(partition).get(state.read[partition]++);
        event.counted = plan.sign == null || plan.sign.equals("<") && event.value < plan.limit
                || plan.sign.equals("=") && event.value == plan.limit
                || plan.sign.equals(">") && event.value > plan.limit;
        event.amount = event.value + (plan.join ? asOf(event.key, event.time) : 0);
        event.begins.clear();
        if (event.counted) {
            if (plan.shape.equals("session")) {
                intoSession(event);
            } else {
                intoWindows(event);
            }
        }
        findWatermark();
        return results.size() - before;
    }

    private int asOf(int key, int time) {
        for (int since = time; since >= 0; since--) {
            for (int i = table.size() - 1; i >= 0; i--) {
                if (table.get(i)[0] == key && table.get(i)[1] == since) {
                    return table.get(i)[2];
                }
            }
        }
        return 0;
    }

    private int totalOf(List<Integer> amounts) {
        if (plan.fold.equals("count")) {
            return amounts.size();
        }
        if (plan.fold.equals("max")) {
            return amounts.isEmpty() ? 0 : amounts.stream().mapToInt(Integer::intValue).max().getAsInt();
        }
        return amounts.stream().mapToInt(Integer::intValue).sum();
    }

    private void intoWindows(Event event) {
        for (int begin = 0; begin <= event.time; begin++) {
            if (canBegin(begin) && event.time < begin + plan.size) {
                if (begin + plan.size + plan.late <= state.watermark) {
                    state.tooLate++;
                } else {
                    event.begins.add(begin);
                    Window window = null;
                    for (Window other : state.windows) {
                        if (other.key == event.key && other.begin == begin) {
                            window = other;
                        }
                    }
                    if (window == null) {
                        window = newWindow(event.key, begin, begin + plan.size);
                    }
                    window.amounts.add(event.amount);
                    tellAtOnce(window);
                }
            }
        }
    }

    private boolean canBegin(int begin) {
        return begin >= 0 && begin % (plan.shape.equals("fixed") ? plan.size : plan.slide) == 0;
    }

    private Window newWindow(int key, int begin, int end) {
        Window window = new Window();
        window.key = key;
        window.begin = begin;
        window.end = end;
        state.windows.add(window);
        return window;
    }

    private void tellAtOnce(Window window) {
        if (window.told || window.end <= state.watermark) {
            tell(window);
        }
    }

    private void intoSession(Event event) {
        int end = event.time + plan.size;
        List<Window> met = new ArrayList<>();
        for (Window window : state.windows) {
            boolean shares = false;
            for (int time = event.time; time < end; time++) {
                shares |= window.begin <= time && time < window.end;
            }
            if (window.key == event.key && shares) {
                met.add(window);
            }
        }
        if (met.isEmpty() && end + plan.late <= state.watermark) {
            state.tooLate++;
            return;
        }
        met.sort(Comparator.comparingInt(window -> window.begin));
        Window merged = new Window();
        merged.key = event.key;
        merged.begin = event.time;
        merged.end = end;
        merged.amounts.add(event.amount);
        for (Window window : met) {
            merged.begin = Math.min(merged.begin, window.begin);
            merged.end = Math.max(merged.end, window.end);
            merged.amounts.addAll(window.amounts);
        }
        for (Window window : met) {
            if (window.begin == merged.begin && window.end == merged.end) {
                merged.told = window.told;
                merged.toldWith = window.toldWith;
            } else if (window.told) {
                put(window, window.toldWith, 2);
            }
            state.windows.remove(window);
        }
        state.windows.add(merged);
        tellAtOnce(merged);
    }

    private void put(Window window, int value, int kind) {
        results.add(new int[] {window.key, window.begin, window.end, value, kind});
    }

    private void tell(Window window) {
        int total = totalOf(window.amounts);
        switch (plan.mode) {
            case "anew" -> put(window, total, 0);
            case "diff" -> put(window, window.told ? total - window.toldWith : total, 1);
            default -> {
                if (window.told) {
                    put(window, window.toldWith, 2);
                }
                put(window, total, 1);
            }
        }
        window.told = true;
        window.toldWith = total;
    }

    private void findWatermark() {
        List<Integer> marks = new ArrayList<>();
        for (int partition = 0; partition < 3; partition++) {
            if (!idle[partition]) {
                if (state.read[partition] == 0) {
                    return;
                }
                int greatest = 0;
                for (Event event : events.get(partition).subList(0, state.read[partition])) {
                    greatest = Math.max(greatest, event.time);
                }
                marks.add(greatest - bounds[partition]);
            }
        }
        if (marks.isEmpty()) {
            return;
        }
        int least = marks.stream().mapToInt(Integer::intValue).min().getAsInt();
        if (least > state.watermark) {
            state.watermark = least;
            List<Window> due = new ArrayList<>(state.windows);
            due.removeIf(window -> window.told || window.end > state.watermark);
            due.sort(Comparator.<Window>comparingInt(window -> window.end).thenComparingInt(window -> window.begin)
                    .thenComparingInt(window -> window.key));
            for (Window window : due) {
                tell(window);
            }
            state.windows.removeIf(window -> window.end + plan.late <= state.watermark);
        }
    }

    int watermark() {
        return state.watermark;
    }

    int read(int partition) {
        index(within(partition, 0, 2));
        return state.read[partition];
    }

    int tooLate() {
        return state.tooLate;
    }

    int windows() {
        return state.windows.size();
    }

    int window(int window, int what) {
        index(within(window, 0, state.windows.size() - 1));
        argument(within(what, 0, 4));
        List<Window> sorted = new ArrayList<>(state.windows);
        sorted.sort(Comparator.<Window>comparingInt(each -> each.key).thenComparingInt(each -> each.begin));
        Window one = sorted.get(window);
        return new int[] {one.key, one.begin, one.end, totalOf(one.amounts), one.told ? 1 : 0}[what];
    }

    int results() {
        return results.size();
    }

    int committed() {
        return completed.results;
    }

    int result(int result, int what) {
        index(within(result, 0, results.size() - 1));
        argument(within(what, 0, 4));
        return results.get(result)[what];
    }

    int total(int key, int begin) {
        index(within(key, 0, 7));
        int total = 0;
        for (int[] result : results) {
            if (result[0] == key && result[1] == begin) {
                total = result[4] == 0 ? result[3] : result[4] == 1 ? total + result[3] : total - result[3];
            }
        }
        return total;
    }

    int totalAnew(int key, int begin) {
        index(within(key, 0, 7));
        state(plan != null && !plan.shape.equals("session"));
        if ((long) begin + plan.size > state.watermark || !canBegin(begin)) {
            return 0;
        }
        List<Integer> amounts = new ArrayList<>();
        for (int partition = 0; partition < 3; partition++) {
            for (Event event : events.get(partition).subList(0, state.read[partition])) {
                if (event.key == key && event.counted && event.begins.contains(begin)) {
                    amounts.add(event.amount);
                }
            }
        }
        return totalOf(amounts);
    }

    int barrier() {
        state(plan != null && doubtful.size() < 5);
        State snapshot = state.copy();
        snapshot.results = results.size();
        snapshot.number = taken++;
        doubtful.add(snapshot);
        return snapshot.number;
    }

    int complete(int snapshot) {
        index(doubtful.stream().anyMatch(each -> each.number == snapshot));
        int before = completed.results;
        while (doubtful.get(0).number != snapshot) {
            doubtful.remove(0);
        }
        completed = doubtful.remove(0);
        return completed.results - before;
    }

    int doubtful() {
        return doubtful.size();
    }

    int crash() {
        state(plan != null);
        int before = results.size();
        results.subList(completed.results, before).clear();
        doubtful.clear();
        state = completed.copy();
        return before - results.size();
    }

    int workers(int next) {
        argument(within(next, 1, 4));
        int before = workers;
        workers = next;
        return (int) state.windows.stream().filter(each -> each.key * before / 8 != each.key * next / 8).count();
    }

    int load(int worker) {
        index(within(worker, 0, workers - 1));
        return (int) state.windows.stream().filter(each -> each.key * workers / 8 == worker).count();
    }
}
