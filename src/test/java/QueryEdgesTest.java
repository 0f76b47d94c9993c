/** The edges of promises 2 to 5 and of "Queries" and "Plans and workers": both sides of each. */
public final class QueryEdgesTest extends LoomChecks {
    private static final String DIGITS = "0123456789";
    private static final String NO_ZERO = "123456789";

    public static void main(String[] args) {
        begin("QueryEdgesTest");
        codesOfCharacters();
        lengthOfTheText();
        wipedTexts();
        whatCanGoOn();
        emptyAndTooShortTexts();
        everyPrefixOfTheLongestQuery();
        blanksBetweenAheadAndBehind();
        gluedParts();
        partsLeftOutOrTwice();
        numbersOfAFilter();
        numbersOfWindows();
        numbersOfLateness();
        theFirstFaultOfSeveral();
        howeverLongItWere();
        faultsThatPlanAloneFinds();
        textsThatAreNoQuery();
        sizesAndSlides();
        nothingToKeep();
        keptLateness();
        keptWindows();
        keptFolds();
        whatAKeptPlanMayChange();
        refusedPlans();
        whatAPlanAnewTakesAway();
        whatAPlanAnewLeaves();
        whatTheCallAnswers();
        defaults();
        end();
    }

    // ---- promises 2 and 3

    private static void codesOfCharacters() {
        about = "character: with a code of 32 to 126";
        for (int code = 0; code <= Character.MAX_VALUE; code++) {
            Streamloom x = new Streamloom();
            char character = (char) code;
            if (code >= 32 && code <= 126) {
                due("type " + code, x.type(character), 1);
                due("length behind " + code, x.wipe(), 1);
            } else {
                throwsDue("type " + code, ARGUMENT, () -> x.type(character));
                due("length behind " + code, x.wipe(), 0);
            }
        }
    }

    private static void lengthOfTheText() {
        about = "IllegalStateException if the text has 60";
        Streamloom x = new Streamloom();
        for (int length = 1; length <= 60; length++) {
            due("type", x.type(' '), length);
        }
        throwsDue("the 61st", STATE, () -> x.type(' '));
        throwsDue("the 61st, a code of 126", STATE, () -> x.type((char) 126));
        throwsDue("the 61st, a code of 127", ARGUMENT, () -> x.type((char) 127));
        throwsDue("the 61st, a code of 31", ARGUMENT, () -> x.type((char) 31));
        due("none came to it", x.wipe(), 60);
        due("the first again", x.type(' '), 1);
        String query = "sum if > -10 join sliding 40 10 late 15 diff                ";
        x.wipe();
        type(x, query);
        throwsDue("behind a query of 60", STATE, () -> x.type(' '));
        due("a query of 60", x.plan(false), 0);
        due("the first behind a plan", x.type('s'), 1);
    }

    private static void wipedTexts() {
        about = "Empties the text; returns how many characters it had";
        Streamloom x = new Streamloom();
        due("an empty one", x.wipe(), 0);
        x.type('s');
        due("one", x.wipe(), 1);
        due("empty again", x.wipe(), 0);
        type(x, " ".repeat(59));
        due("59", x.wipe(), 59);
        type(x, " ".repeat(60));
        due("60", x.wipe(), 60);
        due("empty again", x.wipe(), 0);
        plan(x, "sum fixed 5", false);
        due("behind a plan", x.wipe(), 0);
        type(x, "sum");
        due("the plan stays", x.wipe(), 3);
        due("the plan stays", x.barrier(), 0);
    }

    // ---- promise 4

    /** Behind each text all the characters with which a query could go on, and no others. */
    private static final String[][] GOES_ON = {
        {"", "scm"}, {"s", "u"}, {"su", "m"}, {"c", "o"}, {"co", "u"}, {"cou", "n"}, {"coun", "t"}, {"m", "a"},
        {"ma", "x"},
        {"sum", " "}, {"count", " "}, {"max", " "},
        {"sum ", " ijfs"}, {"count ", " ijfs"}, {"max  ", " ijfs"},
        {"sum i", "f"}, {"sum if", " "}, {"sum if ", " <=>"}, {"sum if <", " "}, {"sum if =", " "}, {"sum if >", " "},
        {"sum if < ", " -" + DIGITS}, {"sum if =  ", " -" + DIGITS}, {"sum if > ", " -" + DIGITS},
        {"sum if < -", DIGITS}, {"sum if < 0", " "}, {"sum if < -0", " "}, {"sum if < 1", " " + DIGITS},
        {"sum if < -9", " " + DIGITS}, {"sum if < 10", " "}, {"sum if < -99", " "},
        {"sum if < 0 ", " jfs"}, {"sum if < 99  ", " jfs"},
        {"sum j", "o"}, {"sum jo", "i"}, {"sum joi", "n"}, {"sum join", " "}, {"sum join ", " fs"},
        {"sum if < 0 j", "o"}, {"sum if < 0 join", " "}, {"sum if < 0 join ", " fs"},
        {"sum f", "i"}, {"sum fi", "x"}, {"sum fix", "e"}, {"sum fixe", "d"}, {"sum fixed", " "},
        {"sum s", "le"}, {"sum sl", "i"}, {"sum sli", "d"}, {"sum slid", "i"}, {"sum slidi", "n"}, {"sum slidin", "g"},
        {"sum sliding", " "}, {"sum se", "s"}, {"sum ses", "s"}, {"sum sess", "i"}, {"sum sessi", "o"},
        {"sum sessio", "n"}, {"sum session", " "},
        {"sum fixed ", " " + NO_ZERO}, {"sum session ", " " + NO_ZERO}, {"sum sliding ", " " + NO_ZERO},
        {"sum fixed 1", " " + DIGITS}, {"sum fixed 9", " " + DIGITS}, {"sum fixed 10", " "}, {"sum fixed 99", " "},
        {"sum session 1", " " + DIGITS}, {"sum session 10", " "},
        {"sum sliding 1", " " + DIGITS}, {"sum sliding 10", " "}, {"sum sliding 10 ", " " + NO_ZERO},
        {"sum sliding 10  1", " " + DIGITS}, {"sum sliding 10 10", " "}, {"sum sliding 10 99", " "},
        {"sum fixed 1 ", " ladb"}, {"sum fixed 10  ", " ladb"}, {"sum session 1 ", " ladb"},
        {"sum sliding 1 1 ", " ladb"},
        {"sum fixed 1 l", "a"}, {"sum fixed 1 la", "t"}, {"sum fixed 1 lat", "e"}, {"sum fixed 1 late", " "},
        {"sum fixed 1 late ", " " + DIGITS}, {"sum fixed 1 late 0", " "}, {"sum fixed 1 late 1", " " + DIGITS},
        {"sum fixed 1 late 9", " " + DIGITS}, {"sum fixed 1 late 10", " "}, {"sum fixed 1 late 0 ", " adb"},
        {"sum fixed 1 late 99  ", " adb"},
        {"sum fixed 1 a", "n"}, {"sum fixed 1 an", "e"}, {"sum fixed 1 ane", "w"}, {"sum fixed 1 anew", " "},
        {"sum fixed 1 d", "i"}, {"sum fixed 1 di", "f"}, {"sum fixed 1 dif", "f"}, {"sum fixed 1 diff", " "},
        {"sum fixed 1 b", "a"}, {"sum fixed 1 ba", "c"}, {"sum fixed 1 bac", "k"}, {"sum fixed 1 back", " "},
        {"sum fixed 1 late 5 back", " "}, {"sum fixed 1 late 5 back ", " "}, {"sum fixed 1 anew  ", " "},
        {"max if = -1 join sliding 8 2 late 0 diff", " "}, {"max if = -1 join sliding 8 2 late 0 diff ", " "}};

    private static void whatCanGoOn() {
        about = "the first character with which no query could go on there";
        for (String[] row : GOES_ON) {
            String ahead = row[0];
            for (char character = 32; character <= 126; character++) {
                int fault = faultOf(ahead + character);
                boolean goesOn = fault == Streamloom.NONE || fault > ahead.length();
                boolean wanted = row[1].indexOf(character) >= 0;
                due("'" + ahead + "', then '" + character + "'", goesOn ? 1 : 0, wanted ? 1 : 0);
                if (!goesOn) {
                    due("'" + ahead + character + "'", fault, ahead.length());
                }
            }
        }
    }

    private static void emptyAndTooShortTexts() {
        about = "its length, if it is only too short";
        due("empty", faultOf(""), 0);
        String[] whole = {"sum fixed 1", "count session 99", "max sliding 4 2"};
        for (String query : whole) {
            for (int length = 0; length < query.length(); length++) {
                String text = query.substring(0, length);
                boolean isWhole = text.equals("count session 9");
                due("'" + text + "'", faultOf(text), isWhole ? -1 : length);
            }
            due("'" + query + "'", faultOf(query), -1);
        }
    }

    private static void everyPrefixOfTheLongestQuery() {
        about = "NONE if it is a query";
        String query = "sum if > -10 join sliding 40 10 late 15 diff ";
        for (int length = 0; length <= query.length(); length++) {
            String text = query.substring(0, length);
            boolean isWhole = text.matches(".* 40 1|.* 40 10 ?|.* late 1|.* late 15 ?|.* diff ?");
            due("'" + text + "'", faultOf(text), isWhole ? -1 : length);
        }
    }

    private static final String[] PARTS = {
        "sum", "if", "<", "-10", "join", "sliding", "40", "10", "late", "15", "back"};

    private static String joined(int wideAt, String wide) {
        StringBuilder text = new StringBuilder(PARTS[0]);
        for (int i = 1; i < PARTS.length; i++) {
            text.append(i == wideAt ? wide : " ").append(PARTS[i]);
        }
        return text.toString();
    }

    private static void blanksBetweenAheadAndBehind() {
        about = "with blanks (one or more) between and perhaps behind, but not ahead";
        String query = joined(0, "");
        due("one between all", faultOf(query), -1);
        for (int i = 1; i < PARTS.length; i++) {
            due("two ahead of " + PARTS[i], faultOf(joined(i, "  ")), -1);
            due("nine ahead of " + PARTS[i], faultOf(joined(i, "         ")), -1);
        }
        due("one behind", faultOf(query + " "), -1);
        due("many behind", faultOf("sum fixed 5" + " ".repeat(49)), -1);
        due("one ahead", faultOf(" " + query), 0);
        due("many ahead", faultOf("   " + query), 0);
        due("one blank alone", faultOf(" "), 0);
        due("60 blanks alone", faultOf(" ".repeat(60)), 0);
        due("within a word", faultOf("su m fixed 5"), 2);
        due("within a number", faultOf("sum fixed 1 2"), 12);
        due("behind the sign of a number", faultOf("sum if < - 1 fixed 5"), 10);
    }

    private static void gluedParts() {
        about = "with blanks between, none";
        int behind = 0;
        for (int i = 1; i < PARTS.length; i++) {
            behind += PARTS[i - 1].length();
            due("none ahead of " + PARTS[i], faultOf(joined(i, "")), behind);
            behind++;
        }
        due("numbers of one digit become one of two", faultOf("sum sliding 84 late 1"), 15);
    }

    private static void partsLeftOutOrTwice() {
        about = "then perhaps";
        String[] whole = {
            "sum if < 1 join fixed 2 late 3 anew", "sum join fixed 2 late 3 anew", "sum if < 1 fixed 2 late 3 anew",
            "sum if < 1 join fixed 2 anew", "sum if < 1 join fixed 2 late 3", "sum fixed 2", "sum join fixed 2",
            "sum fixed 2 late 3",
            "sum fixed 2 diff", "sum if = 1 session 2", "max if > 1 sliding 2 1", "count sliding 2 1 late 3 back"};
        for (String text : whole) {
            due("'" + text + "'", faultOf(text), -1);
        }
        due("no sum, count or max", faultOf("fixed 2"), 0);
        due("no windows", faultOf("sum late 3"), 4);
        due("no windows, but a mode", faultOf("sum join anew"), 9);
        due("if without a sign", faultOf("sum if 1 fixed 2"), 7);
        due("if without a number", faultOf("sum if < fixed 2"), 9);
        due("fixed without a number", faultOf("sum fixed late 3"), 10);
        due("sliding with one number", faultOf("sum sliding 2 late 3"), 14);
        due("sliding with three numbers", faultOf("sum sliding 2 2 2"), 16);
        due("fixed with two numbers", faultOf("sum fixed 2 2"), 12);
        due("session with two numbers", faultOf("sum session 2 2"), 14);
        due("late without a number", faultOf("sum fixed 2 late anew"), 17);
        due("sum twice", faultOf("sum sum fixed 2"), 5);
        due("count twice", faultOf("count count"), 6);
        due("if twice", faultOf("sum if < 1 if < 1"), 11);
        due("a sign twice", faultOf("sum if < < 1"), 9);
        due("join twice", faultOf("sum join join"), 9);
        due("windows twice", faultOf("sum fixed 2 fixed 2"), 12);
        due("late twice", faultOf("sum fixed 2 late 3 late 3"), 19);
        due("a mode twice", faultOf("sum fixed 2 anew anew"), 17);
        due("join ahead of if", faultOf("sum join if < 1"), 9);
        due("a mode ahead of late", faultOf("sum fixed 2 back late 3"), 17);
        due("another letter's case", faultOf("sum Fixed 2"), 4);
    }

    private static void numbersOfAFilter() {
        about = "a number, perhaps with a '-' right ahead of it";
        for (int number = -99; number <= 99; number++) {
            due("if < " + number, faultOf("sum if < " + number + " fixed 5"), -1);
        }
        due("if < -0", faultOf("sum if < -0 fixed 5"), -1);
        due("if = 100", faultOf("sum if = 100 fixed 5"), 11);
        due("if = -100", faultOf("sum if = -100 fixed 5"), 12);
        due("if = 00", faultOf("sum if = 00 fixed 5"), 10);
        due("if = -00", faultOf("sum if = -00 fixed 5"), 11);
        due("if = 01", faultOf("sum if = 01 fixed 5"), 10);
        due("if = -01", faultOf("sum if = -01 fixed 5"), 11);
        due("if = --1", faultOf("sum if = --1 fixed 5"), 10);
        due("if = -", faultOf("sum if = - fixed 5"), 10);
        due("if = 1-", faultOf("sum if = 1- fixed 5"), 10);
        due("if = +1", faultOf("sum if = +1 fixed 5"), 9);
    }

    private static void numbersOfWindows() {
        about = "a number has one or two digits; it does not begin with 0";
        String[] ahead = {"sum fixed ", "sum session ", "sum sliding ", "sum sliding 9 "};
        String[] behind = {"", "", " 9", ""};
        for (int i = 0; i < ahead.length; i++) {
            int place = ahead[i].length();
            for (int number = 1; number <= 99; number++) {
                due(ahead[i] + number, faultOf(ahead[i] + number + behind[i]), -1);
            }
            due(ahead[i] + "100", faultOf(ahead[i] + "100" + behind[i]), place + 2);
            due(ahead[i] + "0", faultOf(ahead[i] + "0" + behind[i]), place);
            due(ahead[i] + "01", faultOf(ahead[i] + "01" + behind[i]), place);
            due(ahead[i] + "-1", faultOf(ahead[i] + "-1" + behind[i]), place);
            due(ahead[i] + "-0", faultOf(ahead[i] + "-0" + behind[i]), place);
        }
    }

    private static void numbersOfLateness() {
        about = "0, which can stand behind 'late'";
        for (int number = 0; number <= 99; number++) {
            due("late " + number, faultOf("sum fixed 5 late " + number), -1);
        }
        due("late 100", faultOf("sum fixed 5 late 100"), 19);
        due("late 00", faultOf("sum fixed 5 late 00"), 18);
        due("late 01", faultOf("sum fixed 5 late 01"), 18);
        due("late -0", faultOf("sum fixed 5 late -0"), 17);
        due("late -1", faultOf("sum fixed 5 late -1"), 17);
    }

    private static void theFirstFaultOfSeveral() {
        about = "the place of the first character";
        due("two faults", faultOf("sum fixed 05 late 05"), 10);
        due("a blank ahead, and more", faultOf(" sux"), 0);
        due("the first character", faultOf("~"), 0);
        due("the last character", faultOf("sum fixed 5 back!"), 16);
        due("a fault, and too short", faultOf("sum if <"), 8);
        due("a fault ahead of what is too short", faultOf("sum fi <"), 6);
    }

    private static void howeverLongItWere() {
        about = "however long it were";
        String blanks = "sum" + " ".repeat(56);
        due("59", faultOf(blanks), 59);
        due("60, of which the last begins a word", faultOf(blanks + "f"), 60);
        due("60, of which the last begins none", faultOf(blanks + "x"), 59);
        due("60, too short for the word", faultOf("sum" + " ".repeat(50) + "session"), 60);
        due("60, too short for the number", faultOf("sum session" + " ".repeat(49)), 60);
        due("60, a query by its last character", faultOf("sum session" + " ".repeat(48) + "9"), -1);
        due("60, a fault by its last character", faultOf("sum session" + " ".repeat(48) + "0"), 59);
    }

    private static void faultsThatPlanAloneFinds() {
        about = "a slide that does not fit is no fault";
        due("it does not divide", faultOf("sum sliding 10 4"), -1);
        due("it is greater", faultOf("sum sliding 4 8"), -1);
        due("too many slides", faultOf("sum sliding 99 1"), -1);
    }

    // ---- promise 5

    private static void textsThatAreNoQuery() {
        about = "IllegalArgumentException if the text is no query";
        String[] texts = {
            "", "s", "sum", "sum fixed", "sum fixed ", "sum fixed 0", "sum sliding 8", "sum fixed 5x", " sum fixed 5",
            "sum fixed 5 late", "sum if < fixed 5", "sum fixed 100"};
        for (String text : texts) {
            Streamloom x = new Streamloom();
            type(x, text);
            throwsDue("'" + text + "'", ARGUMENT, () -> x.plan(false));
            throwsDue("'" + text + "', kept", ARGUMENT, () -> x.plan(true));
            due("'" + text + "' stays", x.wipe(), text.length());
            throwsDue("there is no plan by it", STATE, () -> x.barrier());
        }
        Streamloom x = new Streamloom();
        type(x, "sum fixed");
        throwsDue("too short", ARGUMENT, () -> x.plan(false));
        type(x, " 5");
        due("it goes on where it was", x.plan(false), 0);
    }

    private static void sizesAndSlides() {
        about = "the slide divides the size, and the size is not more than 4 slides";
        for (int size = 1; size <= 99; size++) {
            for (int slide = 1; slide <= 99; slide++) {
                String query = "sum sliding " + size + " " + slide;
                Streamloom x = new Streamloom();
                type(x, query);
                if (size == slide || size == 2 * slide || size == 3 * slide || size == 4 * slide) {
                    due(query, x.plan(false), 0);
                } else {
                    throwsDue(query, ARGUMENT, () -> x.plan(false));
                }
            }
        }
        for (int size = 1; size <= 99; size++) {
            due("fixed of " + size, plan(new Streamloom(), "sum fixed " + size, false), 0);
            due("session of " + size, plan(new Streamloom(), "sum session " + size, false), 0);
        }
    }

    private static void nothingToKeep() {
        about = "IllegalStateException if it is to be kept, and there is no plan";
        Streamloom x = new Streamloom();
        throwsDue("a query", STATE, () -> plan(x, "sum fixed 5", true));
        due("the text stays", x.wipe(), 11);
        throwsDue("no query", ARGUMENT, () -> plan(x, "sum fixed 05", true));
        throwsDue("a slide that does not divide", ARGUMENT, () -> plan(x, "sum sliding 5 4", true));
        throwsDue("5 slides", ARGUMENT, () -> plan(x, "sum sliding 5 1", true));
        due("not kept", plan(x, "sum fixed 5", false), 0);
        due("now there is one", plan(x, "sum fixed 5", true), 0);
    }

    private static void keptLateness() {
        about = "no greater lateness";
        String[] shapes = {"sum fixed 5", "max sliding 8 4", "count session 5"};
        for (String shape : shapes) {
            Streamloom x = planned(shape + " late 9");
            throwsDue("10 over 9", STATE, () -> plan(x, shape + " late 10", true));
            throwsDue("99 over 9", STATE, () -> plan(x, shape + " late 99", true));
            due("9 over 9", plan(x, shape + " late 9", true), 0);
            due("8 over 9", plan(x, shape + " late 8", true), 0);
            throwsDue("9 over 8, where it began with 9", STATE, () -> plan(x, shape + " late 9", true));
            due("8 over 8, behind the one that was refused", plan(x, shape + " late 8", true), 0);
            due("1 over 8", plan(x, shape + " late 1", true), 0);
            due("none over 1", plan(x, shape, true), 0);
            throwsDue("1 over none", STATE, () -> plan(x, shape + " late 1", true));
            due("0 over none", plan(x, shape + " late 0", true), 0);
            due("none over 0", plan(x, shape, true), 0);
            due("anew, it may be greater", plan(x, shape + " late 99", false), 0);
            due("99 over 99", plan(x, shape + " late 99", true), 0);
        }
    }

    private static void keptWindows() {
        about = "the same kind and numbers of windows";
        String[] shapes = {
            "fixed 8", "fixed 7", "fixed 9", "session 8", "session 7", "session 9", "sliding 8 4", "sliding 4 4",
            "sliding 8 8", "sliding 8 2", "sliding 16 8", "sliding 16 4", "sliding 4 2", "fixed 4", "session 4"};
        for (String before : shapes) {
            for (String shape : shapes) {
                Streamloom x = planned("sum " + before + " late 1");
                String query = "sum " + shape + " late 1";
                if (shape.equals(before)) {
                    due(query, plan(x, query, true), 0);
                } else {
                    throwsDue(query + " over " + before, STATE, () -> plan(x, query, true));
                    due("the text stays", x.wipe(), query.length());
                    due("the plan stays", plan(x, "sum " + before + " late 1", true), 0);
                }
            }
        }
        Streamloom x = planned("sum sliding 8 4");
        throwsDue("what does not fit comes first", ARGUMENT, () -> plan(x, "sum sliding 8 3", true));
        throwsDue("and 5 slides, with a greater lateness", ARGUMENT, () -> plan(x, "max sliding 5 1 late 1", true));
    }

    private static void keptFolds() {
        about = "the same 'sum', 'count' or 'max'";
        String[] folds = {"sum", "count", "max"};
        for (String before : folds) {
            for (String fold : folds) {
                Streamloom x = planned(before + " fixed 5");
                if (fold.equals(before)) {
                    due(fold, plan(x, fold + " fixed 5", true), 0);
                } else {
                    throwsDue(fold + " over " + before, STATE, () -> plan(x, fold + " fixed 5", true));
                }
            }
        }
    }

    private static void whatAKeptPlanMayChange() {
        about = "a plan that is kept changes the query alone";
        Streamloom x = single("sum fixed 10 late 5 back");
        x.bound(0, 2);
        x.table(0, 0, 50);
        x.workers(2);
        feed(x, 0, 0, 1, 1);
        feed(x, 0, 0, 12, 2);
        x.barrier();
        x.complete(0);
        feed(x, 0, 4, 23, 4);
        feed(x, 0, 0, 4, 8);
        x.barrier();
        x.event(0, 0, 24, 3);
        x.event(0, 0, 25, -3);
        due("windows", plan(x, "sum if < 0 join fixed 10 late 4 diff", true), 2);
        due("read", x.read(0), 4);
        due("watermark", x.watermark(), 21);
        due("too late", x.tooLate(), 1);
        due("results", x.results(), 2);
        due("committed", x.committed(), 1);
        due("in doubt", x.doubtful(), 1);
        due("load", x.load(1), 1);
        due("the new filter: none", x.step(0) + x.windows(), 2);
        due("the new filter and join", x.step(0), 0);
        window(x, 0, 0, 10, 20, 2, 1);
        window(x, 1, 0, 20, 30, 47, 0);
        due("the next number", x.barrier(), 2);
        due("those in doubt can be completed", x.complete(1), 1);
    }

    private static void refusedPlans() {
        about = "a plan that is refused changes nothing";
        String[] refused = {
            "max if < 0 join fixed 10 diff", "sum if < 0 join fixed 9 back", "sum if < 0 join fixed 10 late 6 diff",
            "sum if < 0 join session 10 diff", "sum if < 0 join sliding 10 10 diff", "sum if < 0 join sliding 9 2 diff",
            "sum if < 0"};
        for (String query : refused) {
            Streamloom x = single("sum fixed 10 late 5");
            x.table(0, 0, 50);
            feed(x, 0, 0, 1, 1);
            type(x, query);
            boolean isQuery = faultOf(query) == Streamloom.NONE && !query.contains("9 2");
            throwsDue(query, isQuery ? STATE : ARGUMENT, () -> x.plan(true));
            due("windows", x.windows(), 1);
            due("the query counts as before", feed(x, 0, 0, 2, 2), 0);
            window(x, 0, 0, 0, 10, 3, 0);
            due("and tells as before", feed(x, 0, 0, 14, 1), 1);
            result(x, 0, 0, 0, 10, 3, SET);
            due("and drops as before", x.windows(), 2);
            feed(x, 0, 0, 15, 1);
            due("and drops as before", x.windows(), 1);
            due("the text stays", x.wipe(), query.length());
        }
    }

    private static Streamloom full(String query) {
        Streamloom x = single(query);
        x.bound(0, 1);
        x.table(1, 0, 20);
        x.workers(3);
        feed(x, 0, 1, 3, 7);
        feed(x, 0, 7, 9, 1);
        feed(x, 0, 7, 19, 1);
        feed(x, 0, 3, 2, 1);
        x.barrier();
        x.complete(0);
        x.barrier();
        feed(x, 0, 7, 32, 1);
        return x;
    }

    private static void whatAPlanAnewTakesAway() {
        about = "to plan a query is to begin anew";
        Streamloom x = full("sum fixed 5");
        due("results", x.results(), 3);
        due("committed", x.committed(), 2);
        due("in doubt", x.doubtful(), 1);
        due("too late", x.tooLate(), 1);
        due("watermark", x.watermark(), 31);
        due("windows", x.windows(), 1);
        due("the call answers no windows", plan(x, "count sliding 8 4 late 99 back", false), 0);
        due("windows", x.windows(), 0);
        due("results", x.results(), 0);
        due("committed", x.committed(), 0);
        due("in doubt", x.doubtful(), 0);
        due("too late", x.tooLate(), 0);
        due("watermark", x.watermark(), -1);
        due("read", x.read(0), 0);
        due("total", x.total(1, 0), 0);
        due("total anew", x.totalAnew(1, 0), 0);
        throwsDue("no window", INDEX, () -> x.window(0, 0));
        throwsDue("no result", INDEX, () -> x.result(0, 0));
        throwsDue("none in doubt", INDEX, () -> x.complete(1));
        due("numbers from 0", x.barrier(), 0);
        due("nothing to go back to but the beginning", x.crash(), 0);
        due("committed", x.committed(), 0);
        due("nothing was read", x.idle(0, false), -1);
    }

    private static void whatAPlanAnewLeaves() {
        about = "a plan anew leaves events, table, bounds, idle ones and workers";
        Streamloom x = full("sum fixed 5");
        plan(x, "sum join fixed 10", false);
        due("an event", x.step(0), 0);
        due("the bound, and the idle ones", x.watermark(), 2);
        window(x, 0, 1, 0, 10, 27, 0);
        due("the greatest times are of this plan alone", x.step(0), 0);
        due("watermark", x.watermark(), 8);
        due("workers", x.load(2), 1);
        due("bound", x.bound(0, 1), 1);
        due("table", x.table(0, 0, 0), 2);
        due("events", x.event(0, 0, 0, 0), 6);
    }

    private static void whatTheCallAnswers() {
        about = "returns how many windows there are then";
        Streamloom x = single("sum fixed 5");
        due("kept, none", plan(x, "sum fixed 5", true), 0);
        x.bound(0, 99);
        feed(x, 0, 0, 1, 1);
        due("kept, one", plan(x, "sum fixed 5", true), 1);
        feed(x, 0, 0, 6, 1);
        feed(x, 0, 1, 6, 1);
        due("kept, three", plan(x, "sum fixed 5", true), 3);
        due("anew, none", plan(x, "sum fixed 5", false), 0);
    }

    private static void defaults() {
        about = "without 'late' the lateness is 0, without a mode it is 'anew'";
        String[] queries = {"sum fixed 5", "sum fixed 5 late 0", "sum fixed 5 anew", "sum fixed 5 late 0 anew"};
        for (String query : queries) {
            Streamloom x = single(query);
            feed(x, 0, 0, 4, 7);
            due(query, feed(x, 0, 1, 5, 1), 1);
            result(x, 0, 0, 0, 5, 7, SET);
            due("dropped with its end", x.windows(), 1);
        }
        Streamloom x = single("sum fixed 5 late 1");
        feed(x, 0, 0, 4, 7);
        feed(x, 0, 1, 5, 1);
        due("a lateness of 1", x.windows(), 2);
        feed(x, 0, 1, 6, 1);
        due("a lateness of 1", x.windows(), 1);
        about = "of 'sliding' the first number is the size, the second one the slide";
        Streamloom y = single("sum sliding 6 3");
        feed(y, 0, 0, 3, 1);
        window(y, 0, 0, 0, 6, 1, 0);
        window(y, 1, 0, 3, 9, 1, 0);
    }
}
