/**
 * The edges of flushes and crashes, and of the promises 24 to 27: flush, write, log, crash. What is
 * dirty, and the promise 23, are in DirtyEdgesTest.
 */
public final class FlushEdgesTest {
    public static void main(String[] args) {
        theFirstFlushHasTheNumberOne();
        aFlushBrokenOffGivesItsNumberToTheNext();
        aFlushOfOneSectorHasSixWrites();
        aFlushOfAllSectorsHas132Writes();
        theWritesComeInTheirOrder();
        theLogsAreUsedInTurn();
        aFlushIsOfTheRegistryAsItWasWhenItBegan();
        aFlushIsWholeWithItsLastWrite();
        theLogHoldsWhatItHeldUntilTheFirstWrite();
        fromTheFirstWriteTheLogHoldsNothing();
        theSealedLogHoldsTheNumber();
        aCrashWithASealedLogCountsTheFlush();
        aCrashWithoutASealedLogDoesNot();
        aCrashAheadOfTheFirstWriteLeavesTheLog();
        aCrashBringsBackTheLastWholeFlush();
        aCrashWithoutAWholeFlushMakesANewRegistry();
        behindACrashNothingIsDirty();
        behindACrashThereAreNoWatches();
        crashesCanFollowEachOther();
        flushIsRefusedWhileOneIsRunning();
        flushIsRefusedIfNoSectorIsDirty();
        flushAnswersItsWrites();
        writeTakesOneTo200();
        writeDoesAsManyAsThereAre();
        writeAnswersHowManyAreLeft();
        writeIsRefusedIfNoneIsRunning();
        logTakesZeroAndOne();
        logAnswersNothingAtFirst();
        crashAnswersTheLastWholeFlush();
        anObjectAnswers512Calls();
        Check.end("FlushEdgesTest");
    }

    private static void logsAre(String when, Counted x, int log0, int log1) {
        Check.due("log(0) " + when, x.log(0), log0);
        Check.due("log(1) " + when, x.log(1), log1);
    }

    /**
     * Two whole flushes, then one that has begun, of two sectors each: the root has the subkey 1 in the
     * first one, 1 and 2 in the second one, 2 in the third one.
     */
    private static Counted withAThirdFlush() {
        Counted x = new Counted();
        x.make(0, 1);
        Check.flushWhole(x);
        x.make(0, 2);
        Check.flushWhole(x);
        x.delete(1);
        Check.due("flush() of two sectors", x.flush(), 2 * 2 + 4);
        return x;
    }

    // ---- flushes and crashes

    /**
     * Flushes and crashes: "A flush has a number, 1 more than that of the last whole one, which is 0 at
     *     first."
     */
    private static void theFirstFlushHasTheNumberOne() {
        Counted x = new Counted();
        Check.due("crash() of a new registry", x.crash(), 0);
        for (int number = 1; number <= 3; number++) {
            x.make(0, number);
            x.flush();
            x.write(199);
            Check.due("log() of its number", x.log(number % 2), number);
            Check.due("crash()", x.crash(), number);
        }
    }

    /** Flushes and crashes: "1 more than that of the last whole one" */
    private static void aFlushBrokenOffGivesItsNumberToTheNext() {
        Counted x = new Counted();
        for (int i = 0; i < 3; i++) {
            x.make(0, i);
            x.flush();
            x.write(2);
            Check.due("crash() that breaks off a flush", x.crash(), 0);
        }
        x.make(0, 5);
        Check.flushWhole(x);
        logsAre("behind the first whole flush", x, 0, 1);
        Check.due("crash()", x.crash(), 1);
        x.make(0, 6);
        x.flush();
        x.crash();
        x.make(0, 7);
        Check.flushWhole(x);
        logsAre("behind the second whole flush", x, 2, 1);
        Check.due("crash()", x.crash(), 2);
    }

    /** Flushes and crashes: "With k dirty sectors it has 2 * k + 4 writes" */
    private static void aFlushOfOneSectorHasSixWrites() {
        Counted x = new Counted();
        x.setRights(0, 1);
        Check.due("dirty()", x.dirty(), 1);
        Check.due("flush()", x.flush(), 6);
        for (int left = 5; left >= 0; left--) {
            Check.due("write(1)", x.write(1), left);
        }
        Check.throwsState("write(1) behind the last", () -> x.write(1));
    }

    /** Flushes and crashes: "With k dirty sectors it has 2 * k + 4 writes" */
    private static void aFlushOfAllSectorsHas132Writes() {
        Counted x = Builds.withRoom(0);
        Check.due("flush() of 64 sectors", x.flush(), 132);
        Check.due("write(65)", x.write(65), 67);
        Check.due("log(1) behind its 64 sectors", x.log(1), 0);
        Check.due("write(1)", x.write(1), 66);
        Check.due("log(1) behind the seal", x.log(1), 1);
        Check.due("write(65)", x.write(65), 1);
        Check.throwsState("flush() ahead of the last write", x::flush);
        Check.due("write(1)", x.write(1), 0);
        Check.due("crash()", x.crash(), 1);
        Check.due("used()", x.used(), 1020);
        for (int key = 6; key >= 1; key--) {
            x.delete(key);
        }
        x.crash();
        Check.due("used() behind another crash", x.used(), 1020);
        Check.due("usedByTree()", x.usedByTree(), 1020);
    }

    /**
     * Flushes and crashes: "one at the beginning of a log, k into it, one that seals it, one of the
     *     head of the file, k into the file, and one of the head again"
     */
    private static void theWritesComeInTheirOrder() {
        for (int write = 0; write <= 8; write++) {
            Counted x = new Counted();
            x.make(0, 0);
            Check.due("flush() of two sectors", x.flush(), 8);
            for (int i = 0; i < write; i++) {
                x.write(1);
            }
            // The log is begun, two sectors go into it, and the fourth write seals it.
            boolean isSealed = write >= 4;
            Check.due("log(1) behind the write " + write, x.log(1), isSealed ? 1 : 0);
            Check.due("crash() behind the write " + write, x.crash(), isSealed ? 1 : 0);
            Check.due("list(0) behind the write " + write, x.list(0), isSealed ? 11 : 0);
        }
    }

    /**
     * Flushes and crashes: "It uses the logs 1 and 0 in turn: the log of the remainder of its number by
     *     2."
     */
    private static void theLogsAreUsedInTurn() {
        Counted x = new Counted();
        logsAre("at first", x, 0, 0);
        for (int number = 1; number <= 20; number++) {
            x.setRights(0, number);
            Check.flushWhole(x);
            int even = number - number % 2;
            int odd = number - 1 + number % 2;
            logsAre("behind the flush " + number, x, even, odd);
        }
    }

    /**
     * Flushes and crashes: "It is of the registry as it was when it began; what changes later does not
     *     belong to it."
     */
    private static void aFlushIsOfTheRegistryAsItWasWhenItBegan() {
        for (int write = 4; write <= 8; write++) {
            Counted x = new Counted();
            x.make(0, 1);
            x.setValue(0, 0, 1, 1);
            x.flush();
            x.make(0, 2);
            x.setValue(0, 0, 1, 2);
            x.write(write);
            x.setRights(1, 9);
            x.rename(1, 3);
            Check.due("crash() behind the write " + write, x.crash(), 1);
            Check.due("list(0)", x.list(0), 11);
            Check.due("find(0, 1)", x.find(0, 1), 1);
            Check.due("unit(0, 0, 0)", x.unit(0, 0, 0), 31);
            Check.due("sharers(9)", x.sharers(9), 0);
            Check.due("make() of the next key", x.make(0, 2), 2);
        }
    }

    /** Flushes and crashes: "When all writes are done, it is whole." */
    private static void aFlushIsWholeWithItsLastWrite() {
        Counted x = new Counted();
        x.make(0, 1);
        x.flush();
        x.make(0, 2);
        x.write(7);
        Check.throwsState("flush() with one write left", x::flush);
        Check.due("write() of the last one", x.write(1), 0);
        Check.throwsState("write() when it is whole", () -> x.write(1));
        Check.due("flush() when it is whole", x.flush(), 8);
        logsAre("when another one has begun", x, 0, 1);
        Check.due("crash()", x.crash(), 1);
        Check.due("list(0)", x.list(0), 11);
    }

    /** Flushes and crashes: "From its first write on the log holds nothing" */
    private static void theLogHoldsWhatItHeldUntilTheFirstWrite() {
        Counted x = withAThirdFlush();
        logsAre("ahead of the first write of the flush 3", x, 2, 1);
        x.write(1);
        logsAre("behind it", x, 2, 0);
    }

    /** Flushes and crashes: "the log holds nothing, until it is sealed" */
    private static void fromTheFirstWriteTheLogHoldsNothing() {
        for (int write = 1; write <= 3; write++) {
            Counted x = withAThirdFlush();
            x.write(write);
            logsAre("behind the write " + write + " of the flush 3", x, 2, 0);
        }
    }

    /** Flushes and crashes: "then it holds the number of the flush" */
    private static void theSealedLogHoldsTheNumber() {
        for (int write = 4; write <= 9; write++) {
            Counted x = withAThirdFlush();
            x.write(write);
            logsAre("behind the write " + write + " of the flush 3", x, 2, 3);
        }
    }

    /**
     * Flushes and crashes: "A crash ends a flush that is running: if its log is sealed, it counts as
     *     whole"
     */
    private static void aCrashWithASealedLogCountsTheFlush() {
        for (int write = 4; write <= 8; write++) {
            Counted x = withAThirdFlush();
            x.write(write);
            Check.due("crash() behind the write " + write, x.crash(), 3);
            logsAre("behind a crash behind the write " + write, x, 2, 3);
            Check.due("list(0)", x.list(0), 11);
            Check.throwsState("write() as none is running", () -> x.write(1));
            x.make(0, 9);
            Check.flushWhole(x);
            logsAre("behind the flush 4", x, 4, 3);
        }
    }

    /**
     * Flushes and crashes: "otherwise it is as if it had not begun, but for its log, which holds
     *     nothing if its first write was done"
     */
    private static void aCrashWithoutASealedLogDoesNot() {
        for (int write = 1; write <= 3; write++) {
            Counted x = withAThirdFlush();
            x.write(write);
            Check.due("crash() behind the write " + write, x.crash(), 2);
            logsAre("behind a crash behind the write " + write, x, 2, 0);
            Check.due("list(0)", x.list(0), 21);
            Check.throwsState("write() as none is running", () -> x.write(1));
            x.make(0, 9);
            x.flush();
            logsAre("when the flush 3 has begun again", x, 2, 0);
            x.write(200);
            logsAre("behind the flush 3", x, 2, 3);
        }
    }

    /** Flushes and crashes: "if its first write was done" */
    private static void aCrashAheadOfTheFirstWriteLeavesTheLog() {
        Counted x = withAThirdFlush();
        Check.due("crash() ahead of the first write", x.crash(), 2);
        logsAre("behind a crash ahead of the first write", x, 2, 1);
        Check.due("list(0)", x.list(0), 21);
        x.crash();
        logsAre("behind another crash", x, 2, 1);
    }

    /** Flushes and crashes: "Then the registry is as it was when the last whole flush began" */
    private static void aCrashBringsBackTheLastWholeFlush() {
        Counted x = Builds.rich();
        x.write(200);
        // The flush began behind all of rich() but its last call, a setValue() of the key 1.
        x.rename(1, 100);
        x.delete(4);
        x.setRights(0, 200);
        x.dropValue(1, 0);
        x.setValue(0, 5, 30, 1);
        x.make(0, 2);
        Check.due("crash()", x.crash(), 2);
        Check.due("find(0, 1)", x.find(0, 1), 1);
        Check.due("find(1, 4)", x.find(1, 4), 4);
        Check.due("follow(3)", x.follow(3), 1);
        Check.due("sharers(200)", x.sharers(200), 0);
        Check.due("sharers(10)", x.sharers(10), 1);
        Check.due("unit(1, 0, 19)", x.unit(1, 0, 19), 31 * 7 + 17 * 19);
        Check.due("resize(1, 1, 1)", x.resize(1, 1, 1), 0);
        Check.throwsIndex("unit(1, 2, 0), which was set later", () -> x.unit(1, 2, 0));
        Check.due("resize(0, 5, 9)", x.resize(0, 5, 9), 9);
        Check.due("usedByTree()", x.usedByTree(), x.used());
        Check.throwsIndex("place(2), which had been deleted", () -> x.place(2));
        Check.due("make() of the next key", x.make(0, 2), 5);
    }

    /** Flushes and crashes: "(a new one, if there is none)" */
    private static void aCrashWithoutAWholeFlushMakesANewRegistry() {
        for (int write = -1; write <= 3; write++) {
            Counted x = new Counted();
            x.make(0, 1);
            x.setValue(0, 0, 0, 0);
            x.setRights(0, 9);
            if (write >= 0) {
                x.flush();
            }
            if (write > 0) {
                x.write(write);
            }
            Check.due("crash()", x.crash(), 0);
            Check.sameFile("a crash without a whole flush", "4:6 10:2 12:-4 /1/0", x);
            Check.due("list(0)", x.list(0), 0);
            Check.due("sharers(0)", x.sharers(0), 1);
            Check.throwsIndex("resize(0, 0, 0)", () -> x.resize(0, 0, 0));
            Check.due("make() of the first key", x.make(0, 2), 1);
        }
    }

    /** Flushes and crashes: "nothing is dirty" */
    private static void behindACrashNothingIsDirty() {
        Counted x = Builds.rich();
        Check.due("sectors are dirty", x.dirty() != 0, true);
        x.crash();
        Check.due("dirty() behind a crash that breaks off a flush", x.dirty(), 0);
        Check.throwsState("flush() behind it", x::flush);
        x.make(0, 50);
        Check.due("sectors are dirty", x.dirty() != 0, true);
        x.crash();
        Check.due("dirty() behind a crash without a flush", x.dirty(), 0);
        x.make(0, 50);
        x.flush();
        x.make(0, 51);
        x.write(199);
        x.crash();
        Check.due("dirty() behind a crash behind the seal", x.dirty(), 0);
    }

    /** Flushes and crashes: "and there are no watches and notices" */
    private static void behindACrashThereAreNoWatches() {
        Counted x = new Counted();
        x.make(0, 1);
        x.watch(0, 7, true);
        x.watch(1, 7, true);
        Check.flushWhole(x);
        x.make(1, 2);
        x.crash();
        Check.due("takeNotice() behind a crash", x.takeNotice(), -1);
        x.make(1, 2);
        Check.due("takeNotice() behind a change", x.takeNotice(), -1);
        Check.due("watch(0, 7, true)", x.watch(0, 7, true), true);
        Check.due("watch(1, 7, true)", x.watch(1, 7, true), true);
        x.crash();
        Check.due("watch(0, 7, true) behind another crash", x.watch(0, 7, true), true);
    }

    /** Flushes and crashes: "A crash ends a flush that is running" */
    private static void crashesCanFollowEachOther() {
        Counted x = withAThirdFlush();
        x.write(4);
        for (int i = 0; i < 3; i++) {
            Check.due("crash()", x.crash(), 3);
            logsAre("behind a crash", x, 2, 3);
            Check.due("list(0)", x.list(0), 11);
        }
        Counted y = withAThirdFlush();
        y.write(3);
        for (int i = 0; i < 3; i++) {
            Check.due("crash()", y.crash(), 2);
            logsAre("behind a crash", y, 2, 0);
            Check.due("list(0)", y.list(0), 21);
        }
    }

    // ---- promises 24 to 27

    /** Promise 24: "Throws `IllegalStateException` if one is running" */
    private static void flushIsRefusedWhileOneIsRunning() {
        Twins.state("flush() with dirty sectors", Builds::rich, Counted::flush);
        Twins.state("flush() ahead of the first write", FlushEdgesTest::withAThirdFlush, Counted::flush);
        Twins.state("flush() ahead of the last write", () -> {
            Counted x = withAThirdFlush();
            Check.due("write(7)", x.write(7), 1);
            x.make(0, 9);
            return x;
        }, Counted::flush);
        Counted y = withAThirdFlush();
        y.make(0, 9);
        y.write(8);
        Check.due("flush() behind the last write", y.flush(), 8);
    }

    /** Promise 24: "or no sector is dirty" */
    private static void flushIsRefusedIfNoSectorIsDirty() {
        Twins.state("flush() of a new registry", Counted::new, Counted::flush);
        Twins.state("flush() behind a whole one", () -> {
            Counted x = Builds.chain(3);
            Check.flushWhole(x);
            return x;
        }, Counted::flush);
        Twins.state("flush() behind a crash", () -> {
            Counted x = Builds.rich();
            x.crash();
            return x;
        }, Counted::flush);
    }

    /**
     * Promise 24: "Begins a flush."
     * Promise 24: "Returns how many writes it has."
     */
    private static void flushAnswersItsWrites() {
        Counted x = new Counted();
        x.setRights(0, 1);
        Check.due("flush() of 1 sector, the least", x.flush(), 6);
        Check.due("write(1)", x.write(1), 5);
        Check.due("flush() of 64 sectors, the most", Builds.withRoom(0).flush(), 132);
        Check.due("flush() of 63 sectors", Builds.withRoom(16).flush(), 130);
    }

    /**
     * Promise 25: "`writes`: 1 to 200"
     * Promise 25: "Throws `IllegalArgumentException` if writes is out of range"
     */
    private static void writeTakesOneTo200() {
        Twins.outOfRange("write()", 1, 200, Counted::write);
        for (int writes : new int[] {Integer.MIN_VALUE, -1, 0, 201, Integer.MAX_VALUE}) {
            Twins.argument("write(" + writes + ") without a flush", Counted::new, x -> x.write(writes));
        }
        Counted x = new Counted();
        x.make(0, 0);
        x.flush();
        Check.due("write(1)", x.write(1), 7);
        Check.due("write(200)", x.write(200), 0);
    }

    /** Promise 25: "as many as there are, if there are fewer" */
    private static void writeDoesAsManyAsThereAre() {
        for (int left = 1; left <= 8; left++) {
            for (int more = 0; more <= 2; more++) {
                Counted x = withAThirdFlush();
                if (left < 8) {
                    x.write(8 - left);
                }
                Check.due("write() of " + left + " and " + more + " more", x.write(left + more), 0);
                logsAre("behind them", x, 2, 3);
                Check.throwsState("write() behind them", () -> x.write(1));
                x.make(0, 9);
                Check.due("flush() behind them", x.flush(), 8);
                Check.due("write(1), as none was done ahead", x.write(1), 7);
            }
        }
    }

    /**
     * Promise 25: "Does writes of the flush that is running."
     * Promise 25: "Returns how many writes are left."
     */
    private static void writeAnswersHowManyAreLeft() {
        for (int writes = 1; writes <= 132; writes++) {
            Counted x = Builds.withRoom(0);
            x.flush();
            Check.due("write(" + writes + ") of 132", x.write(writes), 132 - writes);
        }
    }

    /** Promise 25: "Throws `IllegalStateException` if none is running" */
    private static void writeIsRefusedIfNoneIsRunning() {
        Twins.state("write(1) of a new registry", Counted::new, x -> x.write(1));
        Twins.state("write(200) with dirty sectors", () -> Builds.chain(3), x -> x.write(200));
        Twins.state("write(1) behind a whole flush", () -> {
            Counted x = Builds.rich();
            x.write(200);
            return x;
        }, x -> x.write(1));
        Twins.state("write(1) behind a crash", () -> {
            Counted x = Builds.rich();
            x.crash();
            return x;
        }, x -> x.write(1));
    }

    /**
     * Promise 26: "`log`: 0 or 1"
     * Promise 26: "Throws `IllegalArgumentException` if log is out of range"
     */
    private static void logTakesZeroAndOne() {
        Twins.outOfRange("log()", 0, 1, Counted::log);
        logsAre("behind the flush of rich(), which is the second that began", Builds.rich(), 0, 1);
    }

    /**
     * Promise 26: "Returns what a log holds."
     * Promise 26: "Returns the number of a flush, 0 if it holds nothing."
     */
    private static void logAnswersNothingAtFirst() {
        Counted x = new Counted();
        logsAre("at first", x, 0, 0);
        x.make(0, 0);
        x.flush();
        logsAre("when a flush has begun", x, 0, 0);
        x.write(4);
        logsAre("when it is sealed", x, 0, 1);
    }

    /**
     * Promise 27: "Crashes, and starts again."
     * Promise 27: "Returns the number of the last whole flush."
     */
    private static void crashAnswersTheLastWholeFlush() {
        Counted x = new Counted();
        Check.due("crash() without one", x.crash(), 0);
        for (int number = 1; number <= 30; number++) {
            x.setRights(0, number);
            Check.flushWhole(x);
            Check.due("crash() behind the flush " + number, x.crash(), number);
            Check.due("setRights() is as it was", x.setRights(0, number), number);
        }
    }

    /** What it is: "An object is used for at most 512 calls after it has been made" */
    private static void anObjectAnswers512Calls() {
        Counted x = new Counted();
        for (int number = 1; number <= 170; number++) {
            Check.due("setRights()", x.setRights(0, number), number - 1);
            Check.due("flush()", x.flush(), 6);
            Check.due("write(6)", x.write(6), 0);
        }
        Check.due("the call 511", x.log(1), 169);
        Check.due("the call 512", x.log(0), 170);
        Check.due("calls", x.calls(), 512);
        Counted y = new Counted();
        for (int i = 0; i < 128; i++) {
            y.watch(0, 7, true);
            y.make(0, 1);
            y.crash();
            Check.due("takeNotice() behind a crash", y.takeNotice(), -1);
        }
        Check.due("calls", y.calls(), 512);
        Counted z = new Counted();
        z.make(0, 0);
        for (int i = 1; i <= 85; i++) {
            z.watch(0, 4, false);
            z.watch(1, 4, false);
            z.setRights(1, i);
            z.setRights(0, i);
            Check.due("takeNotice() of what was told first", z.takeNotice(), 14);
            Check.due("takeNotice() of what was told then", z.takeNotice(), 4);
        }
        Check.due("the call 512", z.usedByTree(), 8 + 6 + 5);
    }
}
