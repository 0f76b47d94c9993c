import java.util.NoSuchElementException;

/** A processor of streams; ../shared/DOC.md says what each call answers. */
public final class Streamloom {
    public static final int NONE = -1;
    public static final int SET = 0, ADD = 1, BACK = 2;

    private static final int PARTITIONS = 3;
    private static final int KEYS = 8;
    private static final int MOST_TIME = 999;
    private static final int MOST_VALUE = 99;
    private static final int MOST_BOUND = 99;
    private static final int MOST_TEXT = 60;
    private static final int MOST_EVENTS = 300;
    private static final int MOST_IN_TABLE = 60;
    private static final int MOST_DOUBTFUL = 5;
    private static final int MOST_OPEN = 30;
    private static final int MOST_WORKERS = 4;
    private static final int MOST_SLIDES = 4;
    // 300 events in 4 windows each can put 2400 results at the most.
    private static final int MOST_ROWS = 4096;
    private static final int FIRST_ROWS = 8;

    private static final int FIRST_CHARACTER = 32;
    private static final int LAST_CHARACTER = 126;

    // Columns of events, of the table, of windows and of results.
    private static final int KEY = 0;
    private static final int TIME = 1;
    private static final int VALUE = 2;
    private static final int COUNTS = 3;
    private static final int AMOUNT = 4;
    private static final int HORIZON = 5;
    private static final int EVENT_WIDTH = 6;
    private static final int TABLE_WIDTH = 3;
    private static final int BEGIN = 1;
    private static final int END = 2;
    private static final int TOTAL = 3;
    private static final int IS_TOLD = 4;
    private static final int TOLD_WITH = 5;
    private static final int WINDOW_WIDTH = 6;
    private static final int WINDOW_ANSWERS = 5;
    private static final int RESULT_VALUE = 3;
    private static final int RESULT_KIND = 4;
    private static final int RESULT_WIDTH = 5;

    // How far the text of a query has come.
    private static final int AT_START = 0;
    private static final int BEHIND_FOLD = 1;
    private static final int BEHIND_IF = 2;
    private static final int BEHIND_COMPARISON = 3;
    private static final int BEHIND_LIMIT = 4;
    private static final int BEHIND_JOIN = 5;
    private static final int BEHIND_SHAPE = 6;
    private static final int BEHIND_SIZE = 7;
    private static final int BEHIND_WINDOW = 8;
    private static final int BEHIND_LATE = 9;
    private static final int BEHIND_LATENESS = 10;
    private static final int BEHIND_MODE = 11;

    private final StringBuilder text;
    private final Loom loom;
    private final Snapshots snapshots;
    private boolean isPlanned;
    private int workerCount;

    public Streamloom() {
        text = new StringBuilder();
        loom = new Loom();
        snapshots = new Snapshots();
        isPlanned = false;
        workerCount = 1;
    }

    // ---- the query

    public int type(char character) throws IllegalArgumentException, IllegalStateException {
        if (character < FIRST_CHARACTER || character > LAST_CHARACTER) {
            throw new IllegalArgumentException();
        }
        if (text.length() >= MOST_TEXT) {
            throw new IllegalStateException();
        }
        text.append(character);
        return text.length();
    }

    public int wipe() {
        int length = text.length();
        text.setLength(0);
        return length;
    }

    public int fault() {
        return new QueryReader(text, new Query()).readAll();
    }

    public int plan(boolean isKept) throws IllegalArgumentException, IllegalStateException {
        Query query = new Query();
        if (new QueryReader(text, query).readAll() != NONE || !query.isFit()) {
            throw new IllegalArgumentException();
        }
        if (isKept && !(isPlanned && query.canFollow(loom.query))) {
            throw new IllegalStateException();
        }
        text.setLength(0);
        loom.query = query;
        if (!isKept) {
            isPlanned = true;
            loom.beginAnew();
            snapshots.beginAnew();
        }
        return loom.now.windows.count;
    }

    // ---- events and the table

    public int event(int partition, int key, int time, int value)
            throws IndexOutOfBoundsException, IllegalArgumentException, IllegalStateException {
        if (isOutside(partition, PARTITIONS) || isOutside(key, KEYS)) {
            throw new IndexOutOfBoundsException();
        }
        if (!isTime(time) || !isValue(value)) {
            throw new IllegalArgumentException();
        }
        if (loom.eventCount() >= MOST_EVENTS) {
            throw new IllegalStateException();
        }
        Rows events = loom.partitions[partition].events;
        putTold(events, key, time, value);
        return events.count;
    }

    public int bound(int partition, int bound) throws IndexOutOfBoundsException, IllegalArgumentException {
        if (isOutside(partition, PARTITIONS)) {
            throw new IndexOutOfBoundsException();
        }
        if (bound < 0 || bound > MOST_BOUND) {
            throw new IllegalArgumentException();
        }
        int before = loom.partitions[partition].lag;
        loom.partitions[partition].lag = bound;
        return before;
    }

    public int idle(int partition, boolean isIdle) throws IndexOutOfBoundsException {
        if (isOutside(partition, PARTITIONS)) {
            throw new IndexOutOfBoundsException();
        }
        loom.partitions[partition].isIdle = isIdle;
        if (isPlanned) {
            loom.findWatermark();
        }
        return loom.now.mark;
    }

    public int table(int key, int time, int value)
            throws IndexOutOfBoundsException, IllegalArgumentException, IllegalStateException {
        if (isOutside(key, KEYS)) {
            throw new IndexOutOfBoundsException();
        }
        if (!isTime(time) || !isValue(value)) {
            throw new IllegalArgumentException();
        }
        if (loom.joined.count >= MOST_IN_TABLE) {
            throw new IllegalStateException();
        }
        putTold(loom.joined, key, time, value);
        return loom.joined.count;
    }

    // ---- steps

    public int step(int partition)
            throws IndexOutOfBoundsException, IllegalStateException, NoSuchElementException {
        if (isOutside(partition, PARTITIONS)) {
            throw new IndexOutOfBoundsException();
        }
        if (!isPlanned || loom.told.count - snapshots.closedResults() >= MOST_OPEN) {
            throw new IllegalStateException();
        }
        if (loom.now.read[partition] >= loom.partitions[partition].events.count) {
            throw new NoSuchElementException();
        }
        int before = loom.told.count;
        if (loom.readNext(partition)) {
            loom.putIntoWindows(partition);
        }
        loom.findWatermark();
        return loom.told.count - before;
    }

    public int watermark() {
        return loom.now.mark;
    }

    public int read(int partition) throws IndexOutOfBoundsException {
        if (isOutside(partition, PARTITIONS)) {
            throw new IndexOutOfBoundsException();
        }
        return loom.now.read[partition];
    }

    public int tooLate() {
        return loom.now.lateCount;
    }

    public int windows() {
        return loom.now.windows.count;
    }

    public int window(int window, int what) throws IndexOutOfBoundsException, IllegalArgumentException {
        if (isOutside(window, loom.now.windows.count)) {
            throw new IndexOutOfBoundsException();
        }
        if (isOutside(what, WINDOW_ANSWERS)) {
            throw new IllegalArgumentException();
        }
        return loom.now.windows.get(loom.now.windowByKey(window), what);
    }

    // ---- results

    public int results() {
        return loom.told.count;
    }

    public int committed() {
        return snapshots.completed.resultCount;
    }

    public int result(int result, int what) throws IndexOutOfBoundsException, IllegalArgumentException {
        if (isOutside(result, loom.told.count)) {
            throw new IndexOutOfBoundsException();
        }
        if (isOutside(what, RESULT_WIDTH)) {
            throw new IllegalArgumentException();
        }
        return loom.told.get(result, what);
    }

    public int total(int key, int begin) throws IndexOutOfBoundsException {
        if (isOutside(key, KEYS)) {
            throw new IndexOutOfBoundsException();
        }
        return loom.totalOfResults(key, begin);
    }

    public int totalAnew(int key, int begin) throws IndexOutOfBoundsException, IllegalStateException {
        if (isOutside(key, KEYS)) {
            throw new IndexOutOfBoundsException();
        }
        if (!isPlanned || loom.query.shape == Word.SESSION) {
            throw new IllegalStateException();
        }
        return loom.totalOfEvents(key, begin);
    }

    // ---- snapshots

    public int barrier() throws IllegalStateException {
        if (!isPlanned || snapshots.count >= MOST_DOUBTFUL) {
            throw new IllegalStateException();
        }
        return snapshots.take(loom.now, loom.told.count);
    }

    public int complete(int snapshot) throws IndexOutOfBoundsException {
        int place = snapshots.placeOf(snapshot);
        if (place == NONE) {
            throw new IndexOutOfBoundsException();
        }
        int before = snapshots.completed.resultCount;
        snapshots.completeAt(place);
        return snapshots.completed.resultCount - before;
    }

    public int doubtful() {
        return snapshots.count;
    }

    public int crash() throws IllegalStateException {
        if (!isPlanned) {
            throw new IllegalStateException();
        }
        int before = loom.told.count;
        snapshots.forgetDoubtful();
        loom.now.copyFrom(snapshots.completed);
        loom.told.cutTo(snapshots.completed.resultCount);
        return before - loom.told.count;
    }

    // ---- workers

    public int workers(int workers) throws IllegalArgumentException {
        if (workers < 1 || workers > MOST_WORKERS) {
            throw new IllegalArgumentException();
        }
        int moved = 0;
        for (int row = 0; row < loom.now.windows.count; row++) {
            int key = loom.now.windows.get(row, KEY);
            if (workerOf(key, workers) != workerOf(key, workerCount)) {
                moved++;
            }
        }
        workerCount = workers;
        return moved;
    }

    public int load(int worker) throws IndexOutOfBoundsException {
        if (isOutside(worker, workerCount)) {
            throw new IndexOutOfBoundsException();
        }
        int held = 0;
        for (int row = 0; row < loom.now.windows.count; row++) {
            if (workerOf(loom.now.windows.get(row, KEY), workerCount) == worker) {
                held++;
            }
        }
        return held;
    }

    // ---- what the calls share

    private static boolean isOutside(int index, int count) {
        return index < 0 || index >= count;
    }

    private static boolean isTime(int time) {
        return time >= 0 && time <= MOST_TIME;
    }

    private static boolean isValue(int value) {
        return value >= -MOST_VALUE && value <= MOST_VALUE;
    }

    private static int workerOf(int key, int workers) {
        return key * workers / KEYS;
    }

    private static void putTold(Rows rows, int key, int time, int value) {
        int row = rows.count;
        rows.insert(row);
        rows.set(row, KEY, key);
        rows.set(row, TIME, time);
        rows.set(row, VALUE, value);
    }

    /** Rows of numbers of one width; outside of them all is 0, and nothing is written there. */
    private static final class Rows {
        private final int width;
        private int[] cells;
        private int count;

        Rows(int width) {
            this.width = Math.max(1, width);
            this.cells = new int[this.width * FIRST_ROWS];
            this.count = 0;
        }

        boolean holds(int row, int column) {
            return row >= 0 && row < count && column >= 0 && column < width;
        }

        int get(int row, int column) {
            return holds(row, column) ? cells[row * width + column] : 0;
        }

        void set(int row, int column, int number) {
            if (holds(row, column)) {
                cells[row * width + column] = number;
            }
        }

        /** Puts a row of zeros there; what stood there and behind it moves on by one. */
        void insert(int row) {
            if (row < 0 || row > count || count >= MOST_ROWS) {
                return;
            }
            makeRoom(count + 1);
            int from = row * width;
            System.arraycopy(cells, from, cells, from + width, (count - row) * width);
            for (int column = 0; column < width; column++) {
                cells[from + column] = 0;
            }
            count++;
        }

        void remove(int row, int many) {
            if (row < 0 || many < 0 || row > count - many) {
                return;
            }
            int behind = row + many;
            System.arraycopy(cells, behind * width, cells, row * width, (count - behind) * width);
            count -= many;
        }

        void cutTo(int least) {
            if (least >= 0 && least < count) {
                count = least;
            }
        }

        void copyFrom(Rows other) {
            if (other.width != width) {
                return;
            }
            makeRoom(other.count);
            System.arraycopy(other.cells, 0, cells, 0, other.count * width);
            count = other.count;
        }

        private void makeRoom(int rows) {
            int needed = rows * width;
            if (needed <= cells.length) {
                return;
            }
            int[] wider = new int[Math.max(needed, 2 * cells.length)];
            System.arraycopy(cells, 0, wider, 0, count * width);
            cells = wider;
        }
    }

    /** A word of queries: behind what it may stand (a bit for each), and how far the text has come with it. */
    private enum Word {
        SUM("sum", 1 << AT_START, BEHIND_FOLD),
        COUNT("count", 1 << AT_START, BEHIND_FOLD),
        MAX("max", 1 << AT_START, BEHIND_FOLD),
        IF("if", 1 << BEHIND_FOLD, BEHIND_IF),
        LESS("<", 1 << BEHIND_IF, BEHIND_COMPARISON),
        EQUAL("=", 1 << BEHIND_IF, BEHIND_COMPARISON),
        GREATER(">", 1 << BEHIND_IF, BEHIND_COMPARISON),
        JOIN("join", 1 << BEHIND_FOLD | 1 << BEHIND_LIMIT, BEHIND_JOIN),
        FIXED("fixed", 1 << BEHIND_FOLD | 1 << BEHIND_LIMIT | 1 << BEHIND_JOIN, BEHIND_SHAPE),
        SLIDING("sliding", 1 << BEHIND_FOLD | 1 << BEHIND_LIMIT | 1 << BEHIND_JOIN, BEHIND_SHAPE),
        SESSION("session", 1 << BEHIND_FOLD | 1 << BEHIND_LIMIT | 1 << BEHIND_JOIN, BEHIND_SHAPE),
        LATE("late", 1 << BEHIND_WINDOW, BEHIND_LATE),
        TOLD_ANEW("anew", 1 << BEHIND_WINDOW | 1 << BEHIND_LATENESS, BEHIND_MODE),
        BY_DIFFERENCE("diff", 1 << BEHIND_WINDOW | 1 << BEHIND_LATENESS, BEHIND_MODE),
        TAKEN_BACK("back", 1 << BEHIND_WINDOW | 1 << BEHIND_LATENESS, BEHIND_MODE);

        private static final Word[] ALL = values();

        private final String spelling;
        private final int stages;
        private final int nextStage;

        Word(String spelling, int stages, int nextStage) {
            this.spelling = spelling;
            this.stages = stages;
            this.nextStage = nextStage;
        }

        boolean mayStandBehind(int stage) {
            return (stages >> stage & 1) == 1;
        }
    }

    /** A query; until its text has been read, one that counts every event by itself. */
    private static final class Query {
        private Word fold = Word.SUM;
        private Word comparison = Word.IF;
        private int limit = 0;
        private boolean isJoined = false;
        private Word shape = Word.FIXED;
        private int size = 1;
        private int slide = 1;
        private int lateness = 0;
        private Word mode = Word.TOLD_ANEW;

        boolean isFit() {
            if (shape != Word.SLIDING) {
                return true;
            }
            return slide > 0 && size % slide == 0 && size <= MOST_SLIDES * slide;
        }

        boolean canFollow(Query other) {
            return fold == other.fold && shape == other.shape && size == other.size
                    && slide == other.slide && lateness <= other.lateness;
        }

        boolean lets(int value) {
            if (comparison == Word.LESS) {
                return value < limit;
            }
            if (comparison == Word.EQUAL) {
                return value == limit;
            }
            return comparison != Word.GREATER || value > limit;
        }

        int foldWith(int total, int amount) {
            return fold == Word.MAX ? Math.max(total, amount) : total + amount;
        }
    }

    /** Reads a text as a query, word by word and number by number. */
    private static final class QueryReader {
        private final StringBuilder text;
        private final Query query;
        private int place;
        private int stage;

        QueryReader(StringBuilder text, Query query) {
            this.text = text;
            this.query = query;
            this.place = 0;
            this.stage = AT_START;
        }

        /** Answers the fault of the text. */
        int readAll() {
            for (int parts = 0; parts <= MOST_TEXT && place < text.length(); parts++) {
                int fault = isNumberDue() ? readNumber() : readWord();
                if (fault != NONE) {
                    return fault;
                }
                skipBlanks();
            }
            boolean isWhole = stage == BEHIND_WINDOW || stage == BEHIND_LATENESS || stage == BEHIND_MODE;
            return isWhole ? NONE : text.length();
        }

        private boolean isNumberDue() {
            return stage == BEHIND_COMPARISON || stage == BEHIND_SHAPE || stage == BEHIND_SIZE || stage == BEHIND_LATE;
        }

        private void skipBlanks() {
            while (place < text.length() && text.charAt(place) == ' ') {
                place++;
            }
        }

        /** A text that stops within a word has its fault at its end: it fits one as far as it goes. */
        private int readWord() {
            int mostAlike = 0;
            for (int i = 0; i < Word.ALL.length; i++) {
                Word word = Word.ALL[i];
                if (word.mayStandBehind(stage)) {
                    int alike = howFarAlike(word.spelling);
                    if (alike == word.spelling.length() && isEndOfPart(place + alike)) {
                        place += alike;
                        takeWord(word);
                        return NONE;
                    }
                    mostAlike = Math.max(mostAlike, alike);
                }
            }
            return place + mostAlike;
        }

        private int howFarAlike(String spelling) {
            int alike = 0;
            while (alike < spelling.length() && signAt(place + alike) == spelling.charAt(alike)) {
                alike++;
            }
            return alike;
        }

        private void takeWord(Word word) {
            if (stage == AT_START) {
                query.fold = word;
            } else if (stage == BEHIND_IF) {
                query.comparison = word;
            } else if (word == Word.JOIN) {
                query.isJoined = true;
            } else if (word.nextStage == BEHIND_SHAPE) {
                query.shape = word;
            } else if (word.nextStage == BEHIND_MODE) {
                query.mode = word;
            }
            stage = word.nextStage;
        }

        private int readNumber() {
            boolean isNegative = stage == BEHIND_COMPARISON && signAt(place) == '-';
            int at = isNegative ? place + 1 : place;
            boolean canBeZero = stage == BEHIND_COMPARISON || stage == BEHIND_LATE;
            if (!isDigit(signAt(at)) || signAt(at) == '0' && !canBeZero) {
                return at;
            }
            int number = signAt(at) - '0';
            at++;
            if (number > 0 && isDigit(signAt(at))) {
                number = number * 10 + signAt(at) - '0';
                at++;
            }
            if (!isEndOfPart(at)) {
                return at;
            }
            place = at;
            takeNumber(isNegative ? -number : number);
            return NONE;
        }

        private void takeNumber(int number) {
            if (stage == BEHIND_COMPARISON) {
                query.limit = number;
                stage = BEHIND_LIMIT;
            } else if (stage == BEHIND_LATE) {
                query.lateness = number;
                stage = BEHIND_LATENESS;
            } else if (stage == BEHIND_SIZE) {
                query.slide = number;
                stage = BEHIND_WINDOW;
            } else {
                query.size = number;
                // Fixed windows are sliding ones that slide by their size.
                query.slide = number;
                stage = query.shape == Word.SLIDING ? BEHIND_SIZE : BEHIND_WINDOW;
            }
        }

        private boolean isEndOfPart(int at) {
            return signAt(at) == ' ';
        }

        /** Behind the text it answers blanks. */
        private char signAt(int at) {
            return at >= 0 && at < text.length() ? text.charAt(at) : ' ';
        }

        private static boolean isDigit(char sign) {
            return sign >= '0' && sign <= '9';
        }
    }

    /** A partition of events. */
    private static final class Partition {
        private final Rows events = new Rows(EVENT_WIDTH);
        private int lag = 0;
        private boolean isIdle = false;
    }

    /** All that a snapshot keeps. The windows stand in the order in which they are told: end, beginning, key. */
    private static final class State {
        private final int[] read = new int[PARTITIONS];
        private final int[] greatest = new int[PARTITIONS];
        private final Rows windows = new Rows(WINDOW_WIDTH);
        private int mark = -1;
        private int lateCount = 0;
        private int resultCount = 0;
        private int number = NONE;

        void beginAnew() {
            for (int i = 0; i < PARTITIONS; i++) {
                read[i] = 0;
                greatest[i] = 0;
            }
            windows.cutTo(0);
            mark = -1;
            lateCount = 0;
            resultCount = 0;
            number = NONE;
        }

        void copyFrom(State other) {
            for (int i = 0; i < PARTITIONS; i++) {
                read[i] = other.read[i];
                greatest[i] = other.greatest[i];
            }
            windows.copyFrom(other.windows);
            mark = other.mark;
            lateCount = other.lateCount;
            resultCount = other.resultCount;
            number = other.number;
        }

        int findWindow(int key, int begin) {
            for (int row = 0; row < windows.count; row++) {
                if (windows.get(row, KEY) == key && windows.get(row, BEGIN) == begin) {
                    return row;
                }
            }
            return NONE;
        }

        int addWindow(int key, int begin, int end, int total) {
            int row = 0;
            while (row < windows.count && isAhead(row, key, begin, end)) {
                row++;
            }
            windows.insert(row);
            windows.set(row, KEY, key);
            windows.set(row, BEGIN, begin);
            windows.set(row, END, end);
            windows.set(row, TOTAL, total);
            return row;
        }

        private boolean isAhead(int row, int key, int begin, int end) {
            if (windows.get(row, END) != end) {
                return windows.get(row, END) < end;
            }
            if (windows.get(row, BEGIN) != begin) {
                return windows.get(row, BEGIN) < begin;
            }
            return windows.get(row, KEY) < key;
        }

        /** Of one key the windows with rising ends have rising beginnings, too. */
        int windowByKey(int place) {
            int passed = 0;
            for (int key = 0; key < KEYS; key++) {
                for (int row = 0; row < windows.count; row++) {
                    if (windows.get(row, KEY) == key) {
                        if (passed == place) {
                            return row;
                        }
                        passed++;
                    }
                }
            }
            return NONE;
        }
    }

    /** The snapshots in doubt, the oldest first, and the state to which a crash goes back. */
    private static final class Snapshots {
        private final State[] doubted = new State[MOST_DOUBTFUL];
        private final State completed = new State();
        private int count = 0;
        private int taken = 0;

        Snapshots() {
            for (int i = 0; i < MOST_DOUBTFUL; i++) {
                doubted[i] = new State();
            }
        }

        void beginAnew() {
            count = 0;
            taken = 0;
            completed.beginAnew();
        }

        void forgetDoubtful() {
            count = 0;
        }

        int take(State now, int resultCount) {
            if (count >= MOST_DOUBTFUL) {
                return NONE;
            }
            State snapshot = doubted[count];
            snapshot.copyFrom(now);
            snapshot.resultCount = resultCount;
            snapshot.number = taken;
            count++;
            taken++;
            return snapshot.number;
        }

        int placeOf(int number) {
            for (int place = 0; place < count; place++) {
                if (doubted[place].number == number) {
                    return place;
                }
            }
            return NONE;
        }

        void completeAt(int place) {
            if (place < 0 || place >= count) {
                return;
            }
            completed.copyFrom(doubted[place]);
            int gone = place + 1;
            // The states change places, so that those of the ones that are gone serve again.
            for (int i = 0; i + gone < count; i++) {
                State spare = doubted[i];
                doubted[i] = doubted[i + gone];
                doubted[i + gone] = spare;
            }
            count -= gone;
        }

        /** Up to how many results none is open. */
        int closedResults() {
            return count > 0 ? doubted[count - 1].resultCount : completed.resultCount;
        }
    }

    /** The partitions, the table, the query, the state of now and the results. */
    private static final class Loom {
        private final Partition[] partitions = new Partition[PARTITIONS];
        private final Rows joined = new Rows(TABLE_WIDTH);
        private final Rows told = new Rows(RESULT_WIDTH);
        private final State now = new State();
        private Query query = new Query();

        Loom() {
            for (int i = 0; i < PARTITIONS; i++) {
                partitions[i] = new Partition();
            }
        }

        void beginAnew() {
            told.cutTo(0);
            now.beginAnew();
        }

        int eventCount() {
            int count = 0;
            for (int i = 0; i < PARTITIONS; i++) {
                count += partitions[i].events.count;
            }
            return count;
        }

        /** Windows that end up to there take no event, and are dropped when the watermark grows. */
        private int horizon() {
            return now.mark - query.lateness;
        }

        /** Reads an event; answers whether it counts. */
        boolean readNext(int partition) {
            Rows events = partitions[partition].events;
            int row = now.read[partition];
            int time = events.get(row, TIME);
            int value = events.get(row, VALUE);
            now.greatest[partition] = row == 0 ? time : Math.max(now.greatest[partition], time);
            now.read[partition] = row + 1;
            boolean counts = query.lets(value);
            int amount = 1;
            if (query.fold != Word.COUNT) {
                amount = query.isJoined ? value + joinedValue(events.get(row, KEY), time) : value;
            }
            // totalAnew() asks for what held when the event was read.
            events.set(row, COUNTS, counts ? 1 : 0);
            events.set(row, AMOUNT, amount);
            events.set(row, HORIZON, horizon());
            return counts;
        }

        private int joinedValue(int key, int time) {
            int value = 0;
            int latest = -1;
            for (int row = 0; row < joined.count; row++) {
                int since = joined.get(row, TIME);
                if (joined.get(row, KEY) == key && since <= time && since >= latest) {
                    latest = since;
                    value = joined.get(row, VALUE);
                }
            }
            return value;
        }

        /** Puts the event that was read last in a partition into its windows. */
        void putIntoWindows(int partition) {
            Rows events = partitions[partition].events;
            int row = now.read[partition] - 1;
            int key = events.get(row, KEY);
            int time = events.get(row, TIME);
            int amount = events.get(row, AMOUNT);
            if (query.shape == Word.SESSION) {
                putIntoSession(key, time, amount);
            } else if (query.slide > 0) {
                int last = time - time % query.slide;
                for (int back = query.size / query.slide - 1; back >= 0; back--) {
                    int begin = last - back * query.slide;
                    if (begin >= 0) {
                        putIntoWindow(key, begin, amount);
                    }
                }
            }
        }

        private void putIntoWindow(int key, int begin, int amount) {
            int end = begin + query.size;
            if (end <= horizon()) {
                now.lateCount++;
                return;
            }
            int row = now.findWindow(key, begin);
            if (row == NONE) {
                row = now.addWindow(key, begin, end, amount);
            } else {
                now.windows.set(row, TOTAL, query.foldWith(now.windows.get(row, TOTAL), amount));
            }
            if (isRipe(row)) {
                tell(row);
            }
        }

        private void putIntoSession(int key, int time, int amount) {
            int begin = time;
            int end = time + query.size;
            int total = amount;
            int met = NONE;
            Rows windows = now.windows;
            for (int row = 0; row < windows.count; row++) {
                if (isMet(row, key, time)) {
                    begin = Math.min(begin, windows.get(row, BEGIN));
                    end = Math.max(end, windows.get(row, END));
                    total = query.foldWith(total, windows.get(row, TOTAL));
                    met = row;
                }
            }
            if (met == NONE && end <= horizon()) {
                now.lateCount++;
                return;
            }
            int kept = met;
            if (met == NONE || windows.get(met, BEGIN) != begin || windows.get(met, END) != end) {
                endSessions(key, time);
                kept = now.addWindow(key, begin, end, total);
            }
            windows.set(kept, TOTAL, total);
            if (isRipe(kept)) {
                tell(kept);
            }
        }

        /** Whether a session overlaps the one that an event begins by itself. */
        private boolean isMet(int row, int key, int time) {
            return now.windows.get(row, KEY) == key && now.windows.get(row, BEGIN) < time + query.size
                    && time < now.windows.get(row, END);
        }

        /** Drops the sessions that become one, and takes back those that were told. */
        private void endSessions(int key, int time) {
            Rows windows = now.windows;
            int row = 0;
            for (int looked = windows.count; looked > 0; looked--) {
                if (!isMet(row, key, time)) {
                    row++;
                } else {
                    if (windows.get(row, IS_TOLD) == 1) {
                        putResult(row, windows.get(row, TOLD_WITH), BACK);
                    }
                    windows.remove(row, 1);
                }
            }
        }

        /** Whether a window is told at once when an event has come into it. */
        private boolean isRipe(int row) {
            return now.windows.get(row, IS_TOLD) == 1 || now.windows.get(row, END) <= now.mark;
        }

        private void tell(int row) {
            int total = now.windows.get(row, TOTAL);
            // It is 0 for a window that has not been told.
            int before = now.windows.get(row, TOLD_WITH);
            if (query.mode == Word.TOLD_ANEW) {
                putResult(row, total, SET);
            } else if (query.mode == Word.BY_DIFFERENCE) {
                putResult(row, total - before, ADD);
            } else {
                if (now.windows.get(row, IS_TOLD) == 1) {
                    putResult(row, before, BACK);
                }
                putResult(row, total, ADD);
            }
            now.windows.set(row, IS_TOLD, 1);
            now.windows.set(row, TOLD_WITH, total);
        }

        private void putResult(int window, int value, int kind) {
            int row = told.count;
            told.insert(row);
            told.set(row, KEY, now.windows.get(window, KEY));
            told.set(row, BEGIN, now.windows.get(window, BEGIN));
            told.set(row, END, now.windows.get(window, END));
            told.set(row, RESULT_VALUE, value);
            told.set(row, RESULT_KIND, kind);
        }

        void findWatermark() {
            boolean isFound = false;
            int least = 0;
            for (int i = 0; i < PARTITIONS; i++) {
                if (!partitions[i].isIdle) {
                    if (now.read[i] == 0) {
                        return;
                    }
                    int reached = now.greatest[i] - partitions[i].lag;
                    least = isFound ? Math.min(least, reached) : reached;
                    isFound = true;
                }
            }
            if (isFound && least > now.mark) {
                now.mark = least;
                tellAndDrop();
            }
        }

        private void tellAndDrop() {
            int past = 0;
            for (int row = 0; row < now.windows.count && now.windows.get(row, END) <= now.mark; row++) {
                if (now.windows.get(row, IS_TOLD) == 0) {
                    tell(row);
                }
                if (now.windows.get(row, END) <= horizon()) {
                    past = row + 1;
                }
            }
            now.windows.remove(0, past);
        }

        int totalOfResults(int key, int begin) {
            int total = 0;
            for (int row = 0; row < told.count; row++) {
                if (told.get(row, KEY) == key && told.get(row, BEGIN) == begin) {
                    int value = told.get(row, RESULT_VALUE);
                    int kind = told.get(row, RESULT_KIND);
                    total = kind == SET ? value : kind == ADD ? total + value : total - value;
                }
            }
            return total;
        }

        int totalOfEvents(int key, int begin) {
            if (begin < 0 || begin > MOST_TIME || query.slide < 1 || begin % query.slide != 0
                    || begin + query.size > now.mark) {
                return 0;
            }
            int total = 0;
            boolean isEmpty = true;
            for (int i = 0; i < PARTITIONS; i++) {
                Rows events = partitions[i].events;
                for (int row = 0; row < now.read[i]; row++) {
                    if (isIn(events, row, key, begin)) {
                        int amount = events.get(row, AMOUNT);
                        total = isEmpty ? amount : query.foldWith(total, amount);
                        isEmpty = false;
                    }
                }
            }
            return total;
        }

        private boolean isIn(Rows events, int row, int key, int begin) {
            int end = begin + query.size;
            return events.get(row, COUNTS) == 1 && events.get(row, KEY) == key && events.get(row, TIME) >= begin
                    && events.get(row, TIME) < end && end > events.get(row, HORIZON);
        }
    }
}
