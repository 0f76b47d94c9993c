/** The edges of promises 10 and 13 and of "A step": both sides of each. */
public final class StepEdgesTest extends LoomChecks {
    public static void main(String[] args) {
        begin("StepEdgesTest");
        filters();
        filterAheadOfJoin();
        whatDoesNotCount();
        folds();
        fixedWindows();
        slidingWindows();
        sessionsThatTouch();
        sessionsThatBecomeOne();
        sessionsOfOne();
        tooLateForFixed();
        tooLateForSliding();
        tooLateAsASession();
        overlappingIsNotTooLate();
        byTheWatermarkOfThen();
        windowsThatBegin();
        toldAtOnce();
        toldAtOnceByRisingBeginnings();
        toldAgain();
        sessionsToldAtOnce();
        takenBackByAnotherEnd();
        takenBackByAnotherBeginning();
        notTakenBack();
        severalTakenBack();
        toldWithTheWatermark();
        toldInOrder();
        toldOnceOnly();
        droppedWithTheWatermark();
        droppedSessions();
        onlyIfItHasGrown();
        modes();
        modesOverKeptWindows();
        refusedSteps();
        thirtyOpen();
        openSinceASnapshot();
        openSinceTheCommitted();
        moreThanThirtyAtOnce();
        end();
    }

    /** The watermark becomes that, by an event of key 7 and a filter that lets none of its kind count. */
    private static int mark(Streamloom x, int watermark) {
        return feed(x, 0, 7, watermark, 99);
    }

    private static final String FILTER = " if < 90 ";

    // ---- what counts

    private static void filters() {
        about = "less than, equal to, or greater than the number";
        for (int number = -99; number <= 99; number++) {
            int[] values = {Math.max(-99, number - 1), number, Math.min(99, number + 1), -99, 0, 99};
            Streamloom less = single("count if < " + number + " fixed 9");
            Streamloom equal = single("count if = " + number + " fixed 9");
            Streamloom greater = single("count if > " + number + " fixed 9");
            for (int i = 0; i < values.length; i++) {
                filter(less, i, values[i], values[i] < number);
                filter(equal, i, values[i], values[i] == number);
                filter(greater, i, values[i], values[i] > number);
            }
        }
        Streamloom nought = single("count if = -0 fixed 9");
        filter(nought, 0, -1, false);
        filter(nought, 0, 0, true);
        filter(nought, 1, 1, false);
        Streamloom none = single("count fixed 9");
        filter(none, 0, -99, true);
        filter(none, 1, 99, true);
    }

    private static void filter(Streamloom x, int key, int value, boolean counts) {
        int before = x.windows();
        due("step", feed(x, 0, key, 0, value), 0);
        due(value + " counts", x.windows() - before, counts ? 1 : 0);
    }

    private static void filterAheadOfJoin() {
        about = "added to its value (behind the 'if')";
        Streamloom x = single("sum if < 5 join fixed 9");
        x.table(0, 0, 90);
        x.table(1, 0, -90);
        feed(x, 0, 0, 0, 4);
        due("4 counts, though 94 would not", x.window(0, 3), 94);
        feed(x, 0, 1, 0, 5);
        due("5 does not, though -85 would", x.windows(), 1);
        Streamloom y = single("sum if > 5 join fixed 9");
        y.table(0, 0, -90);
        feed(y, 0, 0, 0, 5);
        due("5 does not", y.windows(), 0);
        feed(y, 0, 0, 0, 6);
        due("6 counts", y.window(0, 3), -84);
        Streamloom z = single("sum join fixed 9");
        z.table(0, 0, 99);
        z.table(1, 0, -99);
        feed(z, 0, 0, 0, 99);
        feed(z, 0, 1, 0, -99);
        due("the greatest", z.window(0, 3), 198);
        due("the least", z.window(1, 3), -198);
    }

    private static void whatDoesNotCount() {
        about = "an event counts only if";
        Streamloom x = single("sum if > 0 session 5");
        feed(x, 0, 0, 10, 1);
        feed(x, 0, 0, 12, 0);
        window(x, 0, 0, 10, 15, 1, 0);
        due("it is read", x.read(0), 2);
        due("the watermark is found with it", x.watermark(), 12);
        feed(x, 0, 0, 15, 0);
        due("windows are told with it", x.results(), 1);
        due("and dropped", x.windows(), 0);
        feed(x, 0, 0, 1, 0);
        due("it is not too late", x.tooLate(), 0);
        feed(x, 0, 0, 1, 1);
        due("one that counts is", x.tooLate(), 1);
    }

    private static void folds() {
        about = "'sum' adds the values, 'count' counts the events, 'max' is the greatest value";
        int[] values = {-99, -99, -98, -98, -99, 0, -1, 1, 99, 98};
        int[] sums = {-99, -198, -296, -394, -493, -493, -494, -493, -394, -296};
        int[] greatest = {-99, -99, -98, -98, -98, 0, 0, 1, 99, 99};
        Streamloom sum = single("sum fixed 5");
        Streamloom count = single("count fixed 5");
        Streamloom max = single("max fixed 5");
        for (int i = 0; i < values.length; i++) {
            feed(sum, 0, 0, i % 5, values[i]);
            feed(count, 0, 0, i % 5, values[i]);
            feed(max, 0, 0, i % 5, values[i]);
            due("sum", sum.window(0, 3), sums[i]);
            due("count", count.window(0, 3), i + 1);
            due("max", max.window(0, 3), greatest[i]);
        }
        Streamloom joined = single("count join fixed 5");
        joined.table(0, 0, 99);
        feed(joined, 0, 0, 0, 99);
        due("count does not look at the table", joined.window(0, 3), 1);
    }

    // ---- which windows

    private static void fixedWindows() {
        about = "the one that begins at the greatest multiple of the size up to its time";
        for (int size = 1; size <= 99; size++) {
            int[] times = {0, size - 1, size, 2 * size - 1, 2 * size, 7 * size - 1, 7 * size, 998, 999};
            for (int time : times) {
                Streamloom x = single("sum fixed " + size);
                x.bound(0, 99);
                feed(x, 0, 3, time, 5);
                int begin = 0;
                while (begin + size <= time) {
                    begin += size;
                }
                due("one of " + size + " at " + time, x.windows(), 1);
                window(x, 0, 3, begin, begin + size, 5, 0);
            }
        }
    }

    private static void slidingWindows() {
        about = "all that begin at multiples of the slide, from 0 on, have the size, and hold its time";
        for (int slide = 1; slide <= 24; slide++) {
            for (int size = slide; size <= 4 * slide; size += slide) {
                int[] times = {
                    0, slide - 1, slide, 2 * slide - 1, 2 * slide, size - 1, size, size + slide - 1, size + slide,
                    998, 999};
                for (int time : times) {
                    Streamloom x = single("sum sliding " + size + " " + slide);
                    x.bound(0, 99);
                    feed(x, 0, 3, time, 5);
                    int place = 0;
                    for (int begin = 0; begin <= time; begin += slide) {
                        if (time < begin + size) {
                            window(x, place, 3, begin, begin + size, 5, 0);
                            place++;
                        }
                    }
                    due("of " + size + " and " + slide + " at " + time, x.windows(), place);
                }
            }
        }
        Streamloom x = single("sum sliding 99 33");
        x.bound(0, 99);
        feed(x, 0, 0, 98, 1);
        due("at 98", x.windows(), 3);
        feed(x, 0, 1, 99, 1);
        window(x, 3, 1, 33, 132, 1, 0);
    }

    private static Streamloom sessionAt(int size, int time) {
        Streamloom x = single("count session " + size);
        x.bound(0, 99);
        feed(x, 0, 0, time, 1);
        return x;
    }

    private static void sessionsThatTouch() {
        about = "which becomes one with all that are there and overlap it";
        for (int size = 1; size <= 99; size++) {
            Streamloom far = sessionAt(size, 200);
            feed(far, 0, 0, 200 - size, 1);
            due("it ends where the other begins", far.windows(), 2);
            window(far, 0, 0, 200 - size, 200, 1, 0);
            window(far, 1, 0, 200, 200 + size, 1, 0);
            Streamloom above = sessionAt(size, 200);
            feed(above, 0, 0, 200 + size, 1);
            due("it begins where the other ends", above.windows(), 2);
            window(above, 1, 0, 200 + size, 200 + 2 * size, 1, 0);
            Streamloom near = sessionAt(size, 200);
            feed(near, 0, 0, 200 - size + 1, 1);
            due("it ends one behind the other's beginning", near.windows(), 1);
            window(near, 0, 0, 200 - size + 1, 200 + size, 2, 0);
            Streamloom into = sessionAt(size, 200);
            feed(into, 0, 0, 200 + size - 1, 1);
            due("it begins one ahead of the other's end", into.windows(), 1);
            window(into, 0, 0, 200, 200 + 2 * size - 1, 2, 0);
            Streamloom other = sessionAt(size, 200);
            feed(other, 0, 1, 200, 1);
            due("another key", other.windows(), 2);
        }
    }

    private static Streamloom twoSessions(int second) {
        Streamloom x = single("sum session 5");
        x.bound(0, 99);
        feed(x, 0, 0, 10, 1);
        feed(x, 0, 0, second, 2);
        return x;
    }

    private static void sessionsThatBecomeOne() {
        about = "from the least beginning to the greatest end";
        Streamloom x = twoSessions(20);
        feed(x, 0, 0, 15, 4);
        due("it touches both, and overlaps none", x.windows(), 3);
        x = twoSessions(20);
        feed(x, 0, 0, 14, 4);
        window(x, 0, 0, 10, 19, 5, 0);
        window(x, 1, 0, 20, 25, 2, 0);
        x = twoSessions(20);
        feed(x, 0, 0, 16, 4);
        window(x, 0, 0, 10, 15, 1, 0);
        window(x, 1, 0, 16, 25, 6, 0);
        x = twoSessions(19);
        feed(x, 0, 0, 14, 4);
        due("it overlaps the first, and touches the second", x.windows(), 2);
        x = twoSessions(19);
        feed(x, 0, 0, 15, 4);
        due("it overlaps the second, and touches the first", x.windows(), 2);
        x = twoSessions(18);
        feed(x, 0, 0, 14, 4);
        due("it overlaps both by one", x.windows(), 1);
        window(x, 0, 0, 10, 23, 7, 0);
        x = twoSessions(15);
        feed(x, 0, 0, 10, 4);
        due("it is the first one", x.windows(), 2);
        feed(x, 0, 0, 15, 8);
        due("it is the second one", x.windows(), 2);
        feed(x, 0, 0, 11, 16);
        window(x, 0, 0, 10, 20, 31, 0);
        feed(x, 0, 0, 12, 32);
        window(x, 0, 0, 10, 20, 63, 0);
        feed(x, 0, 0, 16, 1);
        window(x, 0, 0, 10, 21, 64, 0);
        feed(x, 0, 0, 9, 1);
        window(x, 0, 0, 9, 21, 65, 0);
        Streamloom max = single("max session 5");
        max.bound(0, 99);
        feed(max, 0, 0, 10, -3);
        feed(max, 0, 0, 18, -2);
        feed(max, 0, 0, 14, -4);
        window(max, 0, 0, 10, 23, -2, 0);
    }

    private static void sessionsOfOne() {
        about = "from its time on, as long as the number tells";
        Streamloom x = single("sum session 1");
        x.bound(0, 99);
        feed(x, 0, 0, 0, 1);
        window(x, 0, 0, 0, 1, 1, 0);
        feed(x, 0, 0, 1, 2);
        due("of 1 the next ones touch", x.windows(), 2);
        feed(x, 0, 0, 0, 4);
        window(x, 0, 0, 0, 1, 5, 0);
        Streamloom y = single("sum session 99");
        feed(y, 0, 0, 999, 1);
        window(y, 0, 0, 999, 1098, 1, 0);
        feed(y, 0, 0, 0, 1);
        due("too late", y.tooLate(), 1);
    }

    // ---- too late

    private static void tooLateForFixed() {
        about = "the end of a window and the lateness, together, are not above the watermark";
        int[] latenesses = {0, 1, 2, 50, 99};
        for (int late : latenesses) {
            Streamloom x = single("sum" + FILTER + "fixed 5 late " + late);
            mark(x, 10 + late - 1);
            feed(x, 0, 0, 9, 1);
            due("one below, and not there", x.tooLate(), 0);
            due("one below, and not there", x.windows(), 1);
            feed(x, 0, 0, 5, 2);
            due("one below, and there", x.tooLate(), 0);
            window(x, 0, 0, 5, 10, 3, late > 0 ? 1 : 0);
            mark(x, 10 + late);
            feed(x, 0, 0, 9, 4);
            due("at it", x.tooLate(), 1);
            feed(x, 0, 0, 0, 4);
            due("above it", x.tooLate(), 2);
            due("it is left out", x.windows(), 0);
            int results = x.results();
            due("told once with each event, or once at its end", results, late > 0 ? 2 : 1);
            feed(x, 0, 0, 10, 8);
            due("the next one is not too late", x.tooLate(), 2);
        }
    }

    private static void tooLateForSliding() {
        about = "it is left out there";
        int[] marks = {11, 12, 13, 14, 15, 16, 17, 18, 19};
        int[] late = {0, 1, 1, 2, 2, 3, 3, 4, 4};
        for (int i = 0; i < marks.length; i++) {
            Streamloom x = single("sum" + FILTER + "sliding 8 2");
            mark(x, marks[i]);
            feed(x, 0, 0, 10, 5);
            due("too late by " + marks[i], x.tooLate(), late[i]);
            due("in windows by " + marks[i], x.windows(), 4 - late[i]);
            for (int place = 0; place < 4 - late[i]; place++) {
                int begin = 4 + 2 * (late[i] + place);
                window(x, place, 0, begin, begin + 8, 5, 0);
            }
            Streamloom y = single("sum" + FILTER + "sliding 8 2 late 3");
            mark(y, marks[i] + 3);
            feed(y, 0, 0, 10, 5);
            due("with a lateness", y.tooLate(), late[i]);
        }
        Streamloom x = single("sum" + FILTER + "sliding 8 2");
        mark(x, 8);
        feed(x, 0, 0, 1, 1);
        due("there is one alone from 0 on", x.tooLate(), 1);
        feed(x, 0, 0, 3, 1);
        due("there are two, of which one ends at 10", x.tooLate(), 2);
    }

    private static void tooLateAsASession() {
        about = "if the same holds for its own window";
        int[] latenesses = {0, 1, 5, 99};
        for (int late : latenesses) {
            Streamloom x = single("sum" + FILTER + "session 5 late " + late);
            mark(x, 10 + late);
            feed(x, 0, 0, 5, 1);
            due("at it", x.tooLate(), 1);
            due("it is left out", x.windows(), 0);
            feed(x, 0, 0, 0, 1);
            due("above it, at all", x.tooLate(), 2);
            due("none was told", x.results(), 0);
            feed(x, 0, 0, 6, 1);
            due("one below", x.tooLate(), 2);
            due("it is there", x.windows(), 1);
            due("told, if its end is not above the watermark", x.results(), late > 0 ? 1 : 0);
        }
    }

    private static Streamloom sessionBehind(int watermark) {
        Streamloom x = single("sum" + FILTER + "session 5 late 5");
        feed(x, 0, 0, 8, 1);
        mark(x, watermark);
        return x;
    }

    private static void overlappingIsNotTooLate() {
        about = "and it overlaps none that is there";
        Streamloom x = sessionBehind(17);
        feed(x, 0, 0, 3, 2);
        due("it touches", x.tooLate(), 1);
        due("it touches", x.windows(), 1);
        feed(x, 0, 1, 4, 2);
        due("another key", x.tooLate(), 2);
        feed(x, 0, 0, 4, 2);
        due("it overlaps by one", x.tooLate(), 2);
        window(x, 0, 0, 4, 13, 3, 1);
        feed(x, 0, 0, 0, 4);
        due("it overlaps what has become longer", x.tooLate(), 2);
        window(x, 0, 0, 0, 13, 7, 1);
        x = sessionBehind(18);
        feed(x, 0, 0, 4, 2);
        due("it would overlap what is dropped", x.tooLate(), 1);
        due("there is none", x.windows(), 0);
        feed(x, 0, 0, 12, 2);
        due("not too late, and it overlaps none that is there", x.windows(), 1);
        window(x, 0, 0, 12, 17, 2, 1);
    }

    private static void byTheWatermarkOfThen() {
        about = "by the watermark of then";
        String[] shapes = {"fixed 5", "sliding 5 5", "session 5"};
        for (String shape : shapes) {
            Streamloom x = single("sum" + FILTER + shape);
            x.bound(0, 96);
            mark(x, 100);
            due("watermark", x.watermark(), 4);
            x.bound(0, 0);
            due("it is told with the watermark of behind", feed(x, 0, 0, 0, 1), 1);
            due("watermark", x.watermark(), 100);
            due("it was not too late by that of ahead", x.tooLate(), 0);
            due("and is dropped", x.windows(), 0);
            x = single("sum" + FILTER + shape);
            x.bound(0, 95);
            mark(x, 100);
            due("watermark", x.watermark(), 5);
            x.bound(0, 0);
            due("none is told", feed(x, 0, 0, 0, 1), 0);
            due("it was too late by that of ahead", x.tooLate(), 1);
        }
    }

    // ---- telling at once

    private static void windowsThatBegin() {
        about = "it comes into the window, which begins with it if it is not there";
        String[] folds = {"sum", "max", "count"};
        for (String fold : folds) {
            Streamloom x = single(fold + " fixed 5 late 1");
            feed(x, 0, 0, 0, -7);
            window(x, 0, 0, 0, 5, fold.equals("count") ? 1 : -7, 0);
            feed(x, 0, 1, 6, 0);
            due("dropped", x.windows(), 1);
            feed(x, 0, 0, 6, -9);
            window(x, 0, 0, 5, 10, fold.equals("count") ? 1 : -9, 0);
        }
    }

    private static void toldAtOnce() {
        about = "if its end is not above the watermark, it is told at once";
        Streamloom x = single("sum" + FILTER + "fixed 5 late 50");
        mark(x, 4);
        due("an end of 5 at 4", feed(x, 0, 0, 4, 1), 0);
        window(x, 0, 0, 0, 5, 1, 0);
        due("with the watermark", mark(x, 5), 1);
        due("an end of 5 at 5", feed(x, 0, 1, 4, 2), 1);
        result(x, 1, 1, 0, 5, 2, SET);
        window(x, 1, 1, 0, 5, 2, 1);
        due("an end of 10 at 5", feed(x, 0, 1, 5, 2), 0);
        mark(x, 9);
        due("an end of 10 at 9", feed(x, 0, 2, 9, 2), 0);
        due("both with the watermark", mark(x, 10), 2);
    }

    private static void toldAtOnceByRisingBeginnings() {
        about = "windows of an event are gone through by rising beginnings";
        Streamloom x = single("sum" + FILTER + "sliding 8 2 late 50 back");
        mark(x, 16);
        due("three of four are told at once", feed(x, 0, 3, 10, 5), 3);
        result(x, 0, 3, 4, 12, 5, ADD);
        result(x, 1, 3, 6, 14, 5, ADD);
        result(x, 2, 3, 8, 16, 5, ADD);
        window(x, 3, 3, 10, 18, 5, 0);
        due("each is taken back and told", feed(x, 0, 3, 11, 1), 6);
        result(x, 3, 3, 4, 12, 5, BACK);
        result(x, 4, 3, 4, 12, 6, ADD);
        result(x, 5, 3, 6, 14, 5, BACK);
        result(x, 6, 3, 6, 14, 6, ADD);
        result(x, 7, 3, 8, 16, 5, BACK);
        result(x, 8, 3, 8, 16, 6, ADD);
        due("the fourth with the watermark", mark(x, 18), 1);
        result(x, 9, 3, 10, 18, 6, ADD);
        due("the one that is not there begins", feed(x, 0, 3, 9, 2), 7);
        result(x, 10, 3, 2, 10, 2, ADD);
        result(x, 11, 3, 4, 12, 6, BACK);
    }

    private static void toldAgain() {
        about = "if the window has been told, it is told again at once";
        Streamloom x = single("sum" + FILTER + "fixed 5 late 50");
        feed(x, 0, 0, 0, 1);
        due("told", mark(x, 5), 1);
        due("told again", feed(x, 0, 0, 0, 2), 1);
        result(x, 1, 0, 0, 5, 3, SET);
        due("told again with the same total", feed(x, 0, 0, 0, 0), 1);
        result(x, 2, 0, 0, 5, 3, SET);
        due("another key's is told for the first time", feed(x, 0, 1, 0, 4), 1);
        result(x, 3, 1, 0, 5, 4, SET);
        due("until it is dropped", mark(x, 54), 0);
        due("told again", feed(x, 0, 0, 4, 1), 1);
        mark(x, 55);
        due("too late", feed(x, 0, 0, 4, 1), 0);
    }

    private static void sessionsToldAtOnce() {
        about = "of a session, if its end is not above the watermark";
        Streamloom x = single("sum" + FILTER + "session 5 late 50");
        mark(x, 15);
        due("an end of 16 at 15", feed(x, 0, 0, 11, 1), 0);
        due("an end of 15 at 15", feed(x, 0, 1, 10, 1), 1);
        result(x, 0, 1, 10, 15, 1, SET);
        due("the same session again", feed(x, 0, 1, 10, 2), 1);
        result(x, 1, 1, 10, 15, 3, SET);
        due("not told, and not yet", feed(x, 0, 0, 7, 1), 0);
        window(x, 0, 0, 7, 16, 2, 0);
    }

    // ---- sessions that are taken back

    private static Streamloom toldSession(String mode) {
        Streamloom x = single("sum" + FILTER + "session 5 late 50 " + mode);
        feed(x, 0, 0, 20, 1);
        mark(x, 25);
        feed(x, 0, 0, 20, 2);
        return x;
    }

    private static void takenBackByAnotherEnd() {
        about = "a session that has been told, and gets another end, is taken back";
        String[] modes = {"anew", "diff", "back"};
        for (String mode : modes) {
            Streamloom x = toldSession(mode);
            int from = x.results();
            due("told twice", from, mode.equals("back") ? 3 : 2);
            due("its end is above the watermark", feed(x, 0, 0, 21, 4), 1);
            result(x, from, 0, 20, 25, 3, BACK);
            window(x, 0, 0, 20, 26, 7, 0);
            due("total", x.total(0, 20), 0);
            due("it has not been told, so none is taken back", feed(x, 0, 0, 22, 8), 0);
            window(x, 0, 0, 20, 27, 15, 0);
            due("one below its end", mark(x, 26), 0);
            due("at its end", mark(x, 27), 1);
            result(x, from + 1, 0, 20, 27, 15, mode.equals("anew") ? SET : ADD);
            due("total", x.total(0, 20), 15);
        }
    }

    private static void takenBackByAnotherBeginning() {
        about = "a session that has been told, and gets another beginning, is taken back";
        String[] modes = {"anew", "diff", "back"};
        for (String mode : modes) {
            Streamloom x = toldSession(mode);
            int from = x.results();
            due("taken back, and told at once", feed(x, 0, 0, 19, 4), 2);
            result(x, from, 0, 20, 25, 3, BACK);
            result(x, from + 1, 0, 19, 25, 7, mode.equals("anew") ? SET : ADD);
            window(x, 0, 0, 19, 25, 7, 1);
            due("total of before", x.total(0, 20), 0);
            due("total of now", x.total(0, 19), 7);
        }
    }

    private static void notTakenBack() {
        about = "a session that has been told, and gets no other beginning or end, is not taken back";
        Streamloom x = toldSession("anew");
        due("told again", feed(x, 0, 0, 20, 4), 1);
        result(x, 2, 0, 20, 25, 7, SET);
        due("another session that touches", feed(x, 0, 0, 15, 8), 1);
        result(x, 3, 0, 15, 20, 8, SET);
        due("another key's", feed(x, 0, 1, 16, 8), 1);
        Streamloom diff = toldSession("diff");
        due("told by the difference", feed(diff, 0, 0, 20, 4), 1);
        result(diff, 2, 0, 20, 25, 4, ADD);
        Streamloom y = single("sum session 5");
        feed(y, 0, 0, 10, 1);
        feed(y, 0, 0, 12, 1);
        due("one that was not told", y.results(), 0);
        window(y, 0, 0, 10, 17, 2, 0);
    }

    private static void severalTakenBack() {
        about = "of several that become one, by rising beginnings; what comes of them has not been told";
        String[] modes = {"anew", "diff", "back"};
        for (String mode : modes) {
            int kind = mode.equals("anew") ? SET : ADD;
            Streamloom x = single("sum" + FILTER + "session 5 late 50 " + mode);
            feed(x, 0, 0, 18, 2);
            feed(x, 0, 0, 10, 1);
            mark(x, 22);
            due("one of two was told", x.results(), 1);
            due("one alone is taken back", feed(x, 0, 0, 14, 4), 1);
            result(x, 1, 0, 10, 15, 1, BACK);
            window(x, 0, 0, 10, 23, 7, 0);
            x = single("sum" + FILTER + "session 5 late 50 " + mode);
            feed(x, 0, 0, 18, 2);
            feed(x, 0, 0, 10, 1);
            mark(x, 23);
            due("both were told", x.results(), 2);
            due("both are taken back, and one is told", feed(x, 0, 0, 14, 4), 3);
            result(x, 2, 0, 10, 15, 1, BACK);
            result(x, 3, 0, 18, 23, 2, BACK);
            result(x, 4, 0, 10, 23, 7, kind);
            due("total", x.total(0, 10), 7);
            due("total", x.total(0, 18), 0);
        }
    }

    // ---- telling and dropping with the watermark

    private static void toldWithTheWatermark() {
        about = "all windows that have not been told, and whose end is not above it, are told";
        String[] shapes = {"fixed 5", "sliding 5 5", "session 5"};
        for (String shape : shapes) {
            Streamloom x = single("sum" + FILTER + shape + " late 9");
            feed(x, 0, 0, 0, 1);
            due("one below the end", mark(x, 4), 0);
            due("not told", x.window(0, 4), 0);
            due("at the end", mark(x, 5), 1);
            due("told", x.window(0, 4), 1);
            due("results", x.results(), 1);
            Streamloom y = single("sum" + FILTER + shape + " late 9");
            feed(y, 0, 0, 0, 1);
            due("far above the end", mark(y, 900), 1);
            due("dropped", y.windows(), 0);
            result(y, 0, 0, 0, 5, 1, SET);
        }
    }

    private static void toldInOrder() {
        about = "by rising ends, of one end by rising beginnings, then by rising keys";
        Streamloom x = single("sum" + FILTER + "session 5 late 50");
        int[][] events = {{6, 40}, {0, 41}, {5, 38}, {5, 41}, {4, 38}, {4, 41}, {3, 41}, {2, 42}, {1, 39}};
        for (int[] event : events) {
            feed(x, 0, event[0], event[1] - 30, 1);
        }
        due("none is told ahead", x.results(), 0);
        due("all but the one that ends at 17", mark(x, 16), 6);
        int[][] wanted = {{1, 9, 14}, {6, 10, 15}, {4, 8, 16}, {5, 8, 16}, {0, 11, 16}, {3, 11, 16}};
        for (int i = 0; i < wanted.length; i++) {
            for (int what = 0; what < 3; what++) {
                due("result(" + i + ", " + what + ")", x.result(i, what), wanted[i][what]);
            }
        }
    }

    private static void toldOnceOnly() {
        about = "windows that have been told are not told with the watermark";
        Streamloom x = single("sum" + FILTER + "fixed 5 late 50");
        feed(x, 0, 0, 0, 1);
        due("the first", feed(x, 0, 0, 5, 2), 1);
        due("none", mark(x, 9), 0);
        due("the second alone", mark(x, 10), 1);
        result(x, 1, 0, 5, 10, 2, SET);
        due("none", mark(x, 60), 0);
    }

    private static void droppedWithTheWatermark() {
        about = "all windows are dropped whose end and lateness, together, are not above it";
        int[] latenesses = {0, 1, 99};
        for (int late : latenesses) {
            Streamloom x = single("sum" + FILTER + "fixed 5 late " + late);
            feed(x, 0, 0, 0, 1);
            feed(x, 0, 1, 4, 1);
            mark(x, 5 + late - 1);
            due("one below", x.windows(), 2);
            mark(x, 5 + late);
            due("at it", x.windows(), 0);
            feed(x, 0, 0, 5, 1);
            window(x, 0, 0, 5, 10, 1, late >= 5 ? 1 : 0);
            mark(x, 10 + late - 1);
            due("one below for the next", x.windows(), 1);
            mark(x, 10 + late);
            due("at it", x.windows(), 0);
        }
        Streamloom y = single("sum" + FILTER + "sliding 8 2 late 1");
        feed(y, 0, 0, 7, 1);
        mark(y, 12);
        due("two of four", y.windows(), 2);
        window(y, 0, 0, 4, 12, 1, 1);
    }

    private static void droppedSessions() {
        about = "a session is dropped by its own end";
        Streamloom x = single("sum" + FILTER + "session 5 late 3");
        feed(x, 0, 0, 0, 1);
        feed(x, 0, 0, 4, 1);
        mark(x, 11);
        window(x, 0, 0, 0, 9, 2, 1);
        mark(x, 12);
        due("dropped", x.windows(), 0);
        due("a session that begins behind it", feed(x, 0, 0, 8, 5), 0);
        window(x, 0, 0, 8, 13, 5, 0);
        due("it is told with its end", mark(x, 13), 1);
        result(x, 1, 0, 8, 13, 5, SET);
        due("total", x.total(0, 0), 2);
    }

    private static void onlyIfItHasGrown() {
        about = "if it has grown";
        Streamloom x = single("sum" + FILTER + "fixed 5 late 9");
        feed(x, 0, 0, 0, 1);
        mark(x, 8);
        plan(x, "sum" + FILTER + "fixed 5 late 3", true);
        due("kept", x.windows(), 1);
        mark(x, 8);
        due("the same watermark", x.windows(), 1);
        due("the same watermark by idle()", x.idle(1, true) + x.windows(), 9);
        feed(x, 0, 0, 0, 1);
        due("but it is too late", x.tooLate(), 1);
        window(x, 0, 0, 0, 5, 1, 1);
        mark(x, 9);
        due("a greater one", x.windows(), 0);
        Streamloom y = single("sum" + FILTER + "session 5 late 9");
        feed(y, 0, 0, 0, 1);
        mark(y, 8);
        plan(y, "sum" + FILTER + "session 5 late 3", true);
        due("told again, for it overlaps one that is there", feed(y, 0, 0, 0, 1), 1);
        due("too late", y.tooLate(), 0);
        due("one that touches it is too late", feed(y, 0, 0, 5, 1) + y.tooLate(), 0);
        window(y, 1, 0, 5, 10, 1, 0);
    }

    // ---- how it is told

    private static void modes() {
        about = "to tell a window";
        String[] queries = {"anew", "diff", "back"};
        int[][][] wanted = {
            {{5, SET}, {5, SET}, {3, SET}, {0, SET}, {-4, SET}},
            {{5, ADD}, {0, ADD}, {-2, ADD}, {-3, ADD}, {-4, ADD}},
            {{5, ADD}, {5, BACK}, {5, ADD}, {5, BACK}, {3, ADD}, {3, BACK}, {0, ADD}, {0, BACK}, {-4, ADD}}};
        int[] values = {0, -2, -3, -4};
        for (int i = 0; i < queries.length; i++) {
            Streamloom x = single("sum" + FILTER + "fixed 5 late 50 " + queries[i]);
            feed(x, 0, 3, 2, 5);
            due("for the first time", mark(x, 5), 1);
            for (int value : values) {
                due("again", feed(x, 0, 3, 4, value), queries[i].equals("back") ? 2 : 1);
            }
            due("results", x.results(), wanted[i].length);
            for (int place = 0; place < wanted[i].length; place++) {
                result(x, place, 3, 0, 5, wanted[i][place][0], wanted[i][place][1]);
            }
            due("total", x.total(3, 0), -4);
        }
        Streamloom x = single("sum" + FILTER + "fixed 5 late 50 back");
        feed(x, 0, 0, 0, 0);
        due("with 0 for the first time", mark(x, 5), 1);
        due("taken back with 0", feed(x, 0, 0, 0, 1), 2);
        result(x, 1, 0, 0, 5, 0, BACK);
        Streamloom max = single("max" + FILTER + "fixed 5 late 50 diff");
        feed(max, 0, 0, 0, -9);
        mark(max, 5);
        feed(max, 0, 0, 0, -7);
        result(max, 0, 0, 0, 5, -9, ADD);
        result(max, 1, 0, 0, 5, 2, ADD);
    }

    private static void modesOverKeptWindows() {
        about = "a kept plan tells by its own mode what was told by another one";
        Streamloom x = single("sum" + FILTER + "session 5 late 50 diff");
        feed(x, 0, 0, 0, 4);
        mark(x, 5);
        plan(x, "sum" + FILTER + "session 5 late 50 back", true);
        due("taken back and told", feed(x, 0, 0, 0, 1), 2);
        result(x, 1, 0, 0, 5, 4, BACK);
        result(x, 2, 0, 0, 5, 5, ADD);
        plan(x, "sum" + FILTER + "session 5 late 50 anew", true);
        due("set", feed(x, 0, 0, 0, 1), 1);
        result(x, 3, 0, 0, 5, 6, SET);
        due("taken back by any mode", feed(x, 0, 0, 1, 1), 1);
        result(x, 4, 0, 0, 5, 6, BACK);
        plan(x, "sum" + FILTER + "session 5 late 50 diff", true);
        due("told by the difference to nothing", mark(x, 6), 1);
        result(x, 5, 0, 0, 6, 7, ADD);
        due("total", x.total(0, 0), 7);
    }

    // ---- what a step is refused for

    private static void refusedSteps() {
        about = "partition 0 to 2; a plan; an event";
        int[] outside = {LEAST, -1, 3, MOST};
        Streamloom none = new Streamloom();
        none.event(0, 0, 0, 0);
        Streamloom x = planned("sum fixed 5");
        for (int partition : outside) {
            throwsDue("partition " + partition + " without a plan", INDEX, () -> none.step(partition));
            throwsDue("partition " + partition, INDEX, () -> x.step(partition));
        }
        for (int partition = 0; partition < 3; partition++) {
            int inside = partition;
            throwsDue("no plan", STATE, () -> none.step(inside));
            throwsDue("no event", ELEMENT, () -> x.step(inside));
            x.event(partition, 0, 0, 0);
            due("an event", x.step(partition), 0);
            throwsDue("it has been read", ELEMENT, () -> x.step(inside));
        }
        plan(none, "sum fixed 5", false);
        due("the event told without a plan", none.step(0), 0);
    }

    /** Each step but the first tells one result. */
    private static Streamloom open(int results) {
        Streamloom x = single("sum fixed 1");
        for (int time = 0; time <= results; time++) {
            feed(x, 0, 0, time, 1);
        }
        return x;
    }

    private static void thirtyOpen() {
        about = "with 30 or more of them no step can be made";
        Streamloom x = open(29);
        throwsDue("29 are open, and no event", ELEMENT, () -> x.step(0));
        due("29 are open", feed(x, 0, 0, 30, 1), 1);
        throwsDue("30 are open, and no event", STATE, () -> x.step(0));
        x.event(0, 0, 31, 1);
        throwsDue("30 are open", STATE, () -> x.step(0));
        x.event(1, 0, 31, 1);
        throwsDue("30 are open, of another partition", STATE, () -> x.step(1));
        throwsDue("30 are open, of partition 3", INDEX, () -> x.step(3));
        due("read", x.read(0), 31);
        due("results", x.results(), 30);
        due("gone", x.crash(), 30);
        due("none is open", x.step(0), 0);
    }

    private static void openSinceASnapshot() {
        about = "since the latest snapshot that is in doubt";
        Streamloom x = open(29);
        due("a barrier behind 29", x.barrier(), 0);
        for (int time = 30; time < 59; time++) {
            due("step", feed(x, 0, 0, time, 1), 1);
        }
        due("a barrier behind 58", x.barrier(), 1);
        for (int time = 59; time < 88; time++) {
            due("step", feed(x, 0, 0, time, 1), 1);
        }
        due("the 30th", feed(x, 0, 0, 88, 1), 1);
        x.event(0, 0, 89, 1);
        throwsDue("30 behind the latest", STATE, () -> x.step(0));
        due("an older one is completed", x.complete(0), 29);
        throwsDue("30 behind the latest", STATE, () -> x.step(0));
        due("the latest is completed", x.complete(1), 29);
        throwsDue("30 behind the committed", STATE, () -> x.step(0));
        due("a barrier behind 88", x.barrier(), 2);
        due("none is open", x.step(0), 1);
    }

    private static void openSinceTheCommitted() {
        about = "if none is, since those that are committed";
        Streamloom x = open(29);
        x.barrier();
        x.complete(0);
        for (int time = 30; time < 60; time++) {
            due("step", feed(x, 0, 0, time, 1), 1);
        }
        x.event(0, 0, 60, 1);
        throwsDue("30 behind the committed", STATE, () -> x.step(0));
        due("in doubt", x.doubtful(), 0);
        x.barrier();
        due("none is open", x.step(0), 1);
        due("gone", x.crash(), 31);
        due("none is open behind the crash", x.step(0), 1);
        Streamloom y = open(30);
        plan(y, "sum fixed 1", true);
        y.event(0, 0, 31, 1);
        throwsDue("a kept plan keeps them open", STATE, () -> y.step(0));
        plan(y, "sum fixed 1", false);
        due("a plan anew does not", y.step(0), 0);
    }

    private static void moreThanThirtyAtOnce() {
        about = "30 or more";
        Streamloom x = single("sum fixed 1");
        x.bound(0, 99);
        for (int time = 0; time < 35; time++) {
            feed(x, 0, 0, time, 1);
        }
        x.bound(0, 0);
        due("35 by one step", mark(x, 99), 35);
        x.event(0, 0, 99, 1);
        throwsDue("35 are open", STATE, () -> x.step(0));
        x.barrier();
        due("none is open", x.step(0), 0);
    }
}
