/** Counts the answers that are not due, and prints them. */
final class Check {
    /** A call whose answer counts as a number (a boolean as 1 or 0). */
    interface Call {
        long answer();
    }

    private static int wrong = 0;

    private Check() {
    }

    static void due(String call, long got, long want) {
        if (got != want) {
            wrong++;
            System.out.println(call + " answered " + got + ", due is " + want);
        }
    }

    static void due(String call, boolean got, boolean want) {
        due(call, got ? 1 : 0, want ? 1 : 0);
    }

    static void throwsIndex(String call, Call made) {
        mustThrow(call, made, IndexOutOfBoundsException.class);
    }

    static void throwsArgument(String call, Call made) {
        mustThrow(call, made, IllegalArgumentException.class);
    }

    static void throwsState(String call, Call made) {
        mustThrow(call, made, IllegalStateException.class);
    }

    static void fail(String what) {
        wrong++;
        System.out.println(what);
    }

    /** Behind a call that threw, the registry must be as it was. */
    static void sameFile(String when, String before, HiveKeys x) {
        if (!before.equals(fileOf(x))) {
            fail(when + ": the file is " + fileOf(x) + ", was " + before);
        }
    }

    /** All cells of the file, its size, and the dirty sectors. */
    static String fileOf(HiveKeys x) {
        StringBuilder text = new StringBuilder();
        for (int unit = 0; unit < 16 * x.sectors(); unit++) {
            if (x.cell(unit) != 0) {
                text.append(unit).append(':').append(x.cell(unit)).append(' ');
            }
        }
        return text.append('/').append(x.sectors()).append('/').append(x.dirty()).toString();
    }

    /** Ends the test: with exit code 1 if an answer was not due. */
    static void end(String test) {
        System.out.println(test + ": " + (wrong == 0 ? "all as due" : wrong + " not as due"));
        if (wrong != 0) {
            System.exit(1);
        }
    }

    /** The class must be the very one: what the machine throws is of a class below it. */
    private static void mustThrow(String call, Call made, Class<?> due) {
        try {
            fail(call + " answered " + made.answer() + ", due is throws." + due.getSimpleName());
        } catch (RuntimeException e) {
            if (e.getClass() != due) {
                fail(call + " threw " + e + ", due is throws." + due.getSimpleName());
            }
        }
    }
}
