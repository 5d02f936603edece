/** Counts the answers that are not due, and prints them. */
final class Check {
    /** A call whose answer counts as a number (a boolean as 1 or 0). */
    interface Call {
        long answer();
    }

    private static int wrong = 0;

    private Check() {
    }

    static void due(String call, long got, long want) {
        if (got != want) {
            wrong++;
            System.out.println(call + " answered " + got + ", due is " + want);
        }
    }

    static void due(String call, boolean got, boolean want) {
        due(call, got ? 1 : 0, want ? 1 : 0);
    }

    static void throwsIndex(String call, Call made) {
        mustThrow(call, made, IndexOutOfBoundsException.class);
    }

    static void throwsArgument(String call, Call made) {
        mustThrow(call, made, IllegalArgumentException.class);
    }

    static void throwsState(String call, Call made) {
        mustThrow(call, made, IllegalStateException.class);
    }

    static void fail(String what) {
        wrong++;
        System.out.println(what);
    }

    /** Behind a call that threw, the registry must be as it was. */
    static void sameFile(String when, String before, HiveKeys x) {
        if (!before.equals(fileOf(x))) {
            fail(when + ": the file is " + fileOf(x) + ", was " + before);
        }
    }

    /** All cells of the file, its size, and the dirty sectors. */
    static String fileOf(HiveKeys x) {
        StringBuilder text = new StringBuilder();
        for (int unit = 0; unit < 16 * x.sectors(); unit++) {
            if (x.cell(unit) != 0) {
                text.append(unit).append(':').append(x.cell(unit)).append(' ');
            }
        }
        return text.append('/').append(x.sectors()).append('/').append(x.dirty()).toString();
    }

    /**
     * Fills the file until no cell of 5 units or more is free: the keys 1 to 3 below the root have
     * the values, of which the first, with the name 0, have the length 30; the keys 4 to 12 lie below
     * the key 3, each below the one before.
     */
    static void fillUp(HiveKeys x) {
        for (int key = 1; key <= 12; key++) {
            x.make(key <= 3 ? 0 : key - 1, key);
        }
        for (int name = 0; name < 8; name++) {
            for (int key = 1; key <= 3; key++) {
                setAsLongAsFits(x, key, name);
            }
        }
        for (int unit = 0; unit < 16 * x.sectors(); unit++) {
            if (x.cell(unit) <= -5) {
                fail("fillUp() left " + fileOf(x));
            }
        }
        due("sectors() of a full file", x.sectors(), 64);
    }

    private static void setAsLongAsFits(HiveKeys x, int key, int name) {
        for (int length = 30; length >= 0; length--) {
            try {
                x.setValue(key, name, length, 0);
                return;
            } catch (IllegalStateException e) {
                // a shorter one may fit
            }
        }
    }

    /** Does all writes of a new flush. */
    static void flushWhole(HiveKeys x) {
        x.flush();
        due("write(200) of a whole flush", x.write(200), 0);
    }

    /** Ends the test: with exit code 1 if an answer was not due. */
    static void end(String test) {
        System.out.println(test + ": " + (wrong == 0 ? "all as due" : wrong + " not as due"));
        if (wrong != 0) {
            System.exit(1);
        }
    }

    /** The class must be the very one: what the machine throws is of a class below it. */
    private static void mustThrow(String call, Call made, Class<?> due) {
        try {
            fail(call + " answered " + made.answer() + ", due is throws." + due.getSimpleName());
        } catch (RuntimeException e) {
            if (e.getClass() != due) {
                fail(call + " threw " + e + ", due is throws." + due.getSimpleName());
            }
        }
    }
}
