/** Counts the answers that are due and those that are not; a test's main ends with end(). */
final class Checks {
    interface Call {
        long make();
    }

    private final String test;
    private int passed;
    private int failed;

    Checks(String test) {
        this.test = test;
    }

    void due(String what, long got, long want) {
        if (got == want) {
            passed++;
        } else {
            fail(what + " answered " + got + ", due is " + want);
        }
    }

    void fail(String what) {
        failed++;
        if (failed <= 20) {
            System.out.println(test + ": " + what);
        }
    }

    void throwsDue(String what, Class<? extends RuntimeException> want, Call call) {
        try {
            fail(what + " answered " + call.make() + ", due is " + want.getSimpleName());
        } catch (RuntimeException e) {
            if (e.getClass() == want && isThrownByTheProgram(e)) {
                passed++;
            } else {
                fail(what + " threw " + e.getClass().getSimpleName() + ", due is " + want.getSimpleName());
            }
        }
    }

    /** The machine's own exceptions are of other classes, and the library's begin in the library. */
    private static boolean isThrownByTheProgram(RuntimeException e) {
        return e.getStackTrace().length > 0 && e.getStackTrace()[0].getClassName().startsWith("Streamloom");
    }

    boolean hasFailed() {
        return failed > 0;
    }

    void end() {
        System.out.println(test + ": " + passed + " passed, " + failed + " failed");
        if (failed > 0) {
            System.exit(1);
        }
    }
}
