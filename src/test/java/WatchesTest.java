/** Promises 21 and 22: watch, takeNotice. */
public final class WatchesTest {
    public static void main(String[] args) {
        watchAnswersWhetherThereWasNone();
        watchRefusesWhatItMust();
        subkeysAreToldOf();
        valuesAreToldOf();
        rightsAreToldOf();
        onlyTheKindsWatchedAreToldOf();
        deepWatchesAreToldUpwards();
        aToldWatchIsNotToldAgain();
        watchingAnewEndsTheNotice();
        noticesComeInTheOrderOfTelling();
        deletingEndsWatchAndNotice();
        whatThrowsIsNotToldOf();
        crashEndsAllWatches();
        Check.end("WatchesTest");
    }

    /** The keys 1 below the root, 2 below 1, 3 below 2. */
    private static Counted chain() {
        Counted x = new Counted();
        x.make(0, 1);
        x.make(1, 2);
        x.make(2, 3);
        return x;
    }

    private static void notices(String when, Counted x, int... due) {
        for (int notice : due) {
            Check.due("takeNotice() " + when, x.takeNotice(), notice);
        }
        Check.due("takeNotice() at last, " + when, x.takeNotice(), -1);
    }

    private static void watchAnswersWhetherThereWasNone() {
        Counted x = chain();
        Check.due("watch(1, 1, false)", x.watch(1, 1, false), true);
        Check.due("watch(1, 7, true)", x.watch(1, 7, true), false);
        Check.due("watch(2, 7, true)", x.watch(2, 7, true), true);
        x.make(1, 5);
        Check.due("watch() of a told one", x.watch(1, 1, false), false);
        x.make(1, 6);
        notices("behind make()", x, 11);
        Check.due("watch() of one whose notice was taken", x.watch(1, 1, false), false);
        x.makeLink(0, 9, 0);
        Check.due("watch() of a link", x.watch(6, 4, false), true);
        x.setRights(6, 1);
        notices("of a link", x, 64);
    }

    private static void watchRefusesWhatItMust() {
        Counted x = new Counted();
        Check.throwsIndex("watch(1, 1, true)", () -> x.watch(1, 1, true) ? 1 : 0);
        Check.throwsIndex("watch(-1, 0, true)", () -> x.watch(-1, 0, true) ? 1 : 0);
        Check.throwsIndex("watch(80, 8, true)", () -> x.watch(80, 8, true) ? 1 : 0);
        Check.throwsArgument("watch(0, 0, true)", () -> x.watch(0, 0, true) ? 1 : 0);
        Check.throwsArgument("watch(0, 8, false)", () -> x.watch(0, 8, false) ? 1 : 0);
        Check.throwsArgument("watch(0, -1, false)", () -> x.watch(0, -1, false) ? 1 : 0);
        Check.throwsArgument("watch(0, MAX, false)", () -> x.watch(0, Integer.MAX_VALUE, false) ? 1 : 0);
        Check.due("no watch came of it", x.watch(0, 1, true), true);
        x.make(0, 1);
        Check.throwsArgument("watch(0, 0, true)", () -> x.watch(0, 0, true) ? 1 : 0);
        notices("behind a watch() that threw", x, 1);
    }

    private static void subkeysAreToldOf() {
        Counted x = chain();
        x.watch(1, 7, false);
        x.make(1, 10);
        notices("behind make()", x, 11);
        x.watch(1, 7, false);
        x.makeLink(1, 11, 0);
        notices("behind makeLink()", x, 11);
        x.watch(1, 7, false);
        x.rename(4, 12);
        notices("behind rename()", x, 11);
        x.watch(1, 7, false);
        x.delete(4);
        notices("behind delete()", x, 11);
        x.watch(1, 7, false);
        x.rename(1, 13);
        notices("behind its own rename()", x);
    }

    private static void valuesAreToldOf() {
        Counted x = chain();
        x.watch(1, 7, false);
        x.setValue(1, 0, 0, 0);
        notices("behind setValue()", x, 12);
        x.watch(1, 7, false);
        x.setValue(1, 0, 0, 0);
        notices("behind the same setValue()", x, 12);
        x.watch(1, 7, false);
        x.resize(1, 0, 9);
        notices("behind resize()", x, 12);
        x.watch(1, 7, false);
        x.resize(1, 0, 9);
        notices("behind resize() to the same length", x, 12);
        x.watch(1, 7, false);
        x.dropValue(1, 0);
        notices("behind dropValue()", x, 12);
    }

    private static void rightsAreToldOf() {
        Counted x = chain();
        x.watch(1, 7, false);
        x.setRights(1, 9);
        notices("behind setRights()", x, 14);
        x.watch(1, 7, false);
        x.setRights(1, 9);
        notices("behind setRights() to the same", x);
    }

    private static void onlyTheKindsWatchedAreToldOf() {
        int[] expected = {1, 2, 1, 4, 1, 2, 1};
        for (int kinds = 1; kinds <= 7; kinds++) {
            Counted x = chain();
            x.watch(1, kinds, false);
            x.make(1, 10);
            x.setValue(1, 0, 0, 0);
            x.setRights(1, 9);
            notices("of the kinds " + kinds, x, 10 + expected[kinds - 1]);
        }
    }

    private static void deepWatchesAreToldUpwards() {
        Counted x = chain();
        x.watch(0, 2, true);
        x.watch(1, 7, false);
        x.watch(2, 6, true);
        x.watch(3, 2, false);
        x.setValue(3, 0, 0, 0);
        notices("of 3, then of the deep ones above", x, 32, 22, 2);
        x.watch(0, 1, true);
        x.watch(2, 7, true);
        x.setRights(1, 5);
        notices("of 1, whose watch was not told yet", x, 14);
        x.setRights(3, 6);
        notices("of 3, to 2", x, 24);
        x.make(3, 0);
        notices("of 3, to the root", x, 1);
        x.watch(2, 7, true);
        x.make(1, 0);
        notices("a deep watch is not told of what is above", x);
        Counted y = chain();
        y.watch(1, 1, true);
        y.delete(3);
        notices("of 2, to 1", y, 11);
        y.watch(0, 1, true);
        y.rename(2, 7);
        notices("of 1, to the root", y, 1);
    }

    private static void aToldWatchIsNotToldAgain() {
        Counted x = chain();
        x.watch(1, 3, false);
        x.make(1, 10);
        x.setValue(1, 0, 0, 0);
        notices("the first change alone", x, 11);
        x.setValue(1, 0, 0, 0);
        x.make(1, 11);
        notices("also behind the taking", x);
        x.watch(1, 3, false);
        x.setValue(1, 0, 0, 0);
        notices("watched anew", x, 12);
    }

    private static void watchingAnewEndsTheNotice() {
        Counted x = chain();
        x.watch(1, 1, false);
        x.make(1, 10);
        x.watch(1, 2, false);
        notices("of the watch before", x);
        x.make(1, 11);
        notices("of a kind that is not watched any more", x);
        x.setValue(1, 0, 0, 0);
        notices("of the watch now", x, 12);
        x.watch(1, 1, true);
        x.watch(1, 1, false);
        x.make(2, 12);
        notices("not deep any more", x);
    }

    private static void noticesComeInTheOrderOfTelling() {
        Counted x = chain();
        x.watch(1, 1, false);
        x.watch(2, 2, false);
        x.watch(3, 4, false);
        x.setRights(3, 1);
        x.make(1, 10);
        x.setValue(2, 0, 0, 0);
        Check.due("the first told", x.takeNotice(), 34);
        x.watch(3, 7, false);
        x.make(3, 11);
        notices("in time", x, 11, 22, 31);
        for (int key = 1; key <= 3; key++) {
            x.watch(key, 7, false);
            x.setValue(4 - key, 0, 0, 0);
        }
        x.watch(2, 7, false);
        x.setValue(2, 0, 0, 0);
        x.setValue(1, 0, 0, 0);
        x.setValue(3, 0, 0, 0);
        notices("in time", x, 12, 22, 32);
    }

    private static void deletingEndsWatchAndNotice() {
        Counted x = chain();
        x.watch(3, 2, false);
        x.watch(1, 1, true);
        x.setValue(3, 0, 0, 0);
        x.delete(3);
        notices("of the parent's deep watch alone", x, 11);
        Check.throwsIndex("watch(3, 1, true)", () -> x.watch(3, 1, true) ? 1 : 0);
        Counted y = chain();
        y.setValue(3, 0, 0, 0);
        y.watch(2, 6, true);
        y.delete(3);
        notices("deleting is a change of subkeys alone", y);
    }

    private static void whatThrowsIsNotToldOf() {
        Counted x = chain();
        x.watch(0, 7, true);
        Check.throwsState("make(0, 1)", () -> x.make(0, 1));
        Check.throwsState("rename(1, 1)", () -> x.rename(1, 1));
        Check.throwsState("delete(1)", () -> x.delete(1));
        Check.throwsArgument("setValue(0, 0, 31, 0)", () -> x.setValue(0, 0, 31, 0));
        Check.throwsIndex("resize(0, 0, 0)", () -> x.resize(0, 0, 0));
        Check.throwsIndex("dropValue(0, 0)", () -> x.dropValue(0, 0));
        Check.throwsArgument("setRights(0, 256)", () -> x.setRights(0, 256));
        notices("behind calls that threw", x);
    }

    private static void crashEndsAllWatches() {
        Counted x = chain();
        Check.flushWhole(x);
        x.watch(0, 7, true);
        x.watch(1, 7, true);
        x.watch(2, 7, true);
        x.make(1, 10);
        x.crash();
        notices("behind crash()", x);
        x.make(1, 10);
        x.make(2, 10);
        notices("behind crash() and make()", x);
        Check.due("watch(0, 7, true)", x.watch(0, 7, true), true);
        Check.due("watch(1, 7, true)", x.watch(1, 7, true), true);
        Check.due("watch(2, 7, true)", x.watch(2, 7, true), true);
    }
}
