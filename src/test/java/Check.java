/** Counts the answers that are not due, and prints them. */
final class Check {
    /** A call whose answer counts as a number (a boolean as 1 or 0). */
    interface Call {
        long answer();
    }

    private static int wrong = 0;

    private Check() {
    }

    static void due(String call, long got, long want) {
        if (got != want) {
            wrong++;
            System.out.println(call + " answered " + got + ", due is " + want);
        }
    }

    static void due(String call, boolean got, boolean want) {
        due(call, got ? 1 : 0, want ? 1 : 0);
    }

    static void throwsIndex(String call, Call made) {
        mustThrow(call, made, IndexOutOfBoundsException.class);
    }

    static void throwsArgument(String call, Call made) {
        mustThrow(call, made, IllegalArgumentException.class);
    }

    static void throwsState(String call, Call made) {
        mustThrow(call, made, IllegalStateException.class);
    }

    static void fail(String what) {
        wrong++;
        System.out.println(what);
    }

    /** Behind a call that threw, the registry must be as it was. */
    static void sameFile(String when, String before, Counted x) {
        if (!before.equals(fileOf(x))) {
            fail(when + ": the file is " + fileOf(x) + ", was " + before);
        }
    }

    /** All cells of the file, its size, and the dirty sectors. */
    static String fileOf(Counted x) {
        return cellsOf(x) + "/" + x.sectors() + "/" + x.dirty();
    }

    /** All cells of the file, by going from one to the next. */
    static String cellsOf(Counted x) {
        StringBuilder text = new StringBuilder();
        int end = 16 * x.sectors();
        int unit = 4;
        while (unit < end) {
            int size = x.cell(unit);
            text.append(unit).append(':').append(size).append(' ');
            unit += size == 0 ? end : Math.abs(size);
        }
        if (unit != end) {
            fail("the cells do not lie side by side: " + text);
        }
        return text.toString();
    }

    static void sameCells(String when, String due, Counted x) {
        String got = cellsOf(x).trim();
        if (!got.equals(due)) {
            fail(when + ": the cells are " + got + ", due are " + due);
        }
    }

    /** Does all writes of a new flush. */
    static void flushWhole(Counted x) {
        x.flush();
        due("write(200) of a whole flush", x.write(200), 0);
    }

    /** Ends the test: with exit code 1 if an answer was not due. */
    static void end(String test) {
        System.out.println(test + ": " + (wrong == 0 ? "all as due" : wrong + " not as due"));
        if (wrong != 0) {
            System.exit(1);
        }
    }

    /** The class must be the very one: what the machine throws is of a class below it. */
    private static void mustThrow(String call, Call made, Class<?> due) {
        try {
            fail(call + " answered " + made.answer() + ", due is throws." + due.getSimpleName());
        } catch (RuntimeException e) {
            if (e.getClass() != due) {
                fail(call + " threw " + e + ", due is throws." + due.getSimpleName());
            }
        }
    }
}
