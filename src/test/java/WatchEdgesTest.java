/** The edges of watches, and of the promises 21 and 22: watch, takeNotice. */
public final class WatchEdgesTest {
    private static final int SUBKEYS = 1;
    private static final int VALUES = 2;
    private static final int RIGHTS = 4;

    public static void main(String[] args) {
        makingRenamingAndDeletingAreChangesOfSubkeys();
        settingResizingAndDroppingAreChangesOfValues();
        resizingToTheSameLengthIsAChange();
        settingAValueAsItIsIsAChange();
        otherRightsAreAChange();
        theSameRightsAreNone();
        kindsAreAdded();
        aWatchThatIsNotDeepIsToldOfItsKeyAlone();
        aDeepWatchIsToldOfItsKeyAndAllBelow();
        aChangeIsAtTheParentOfAMadeKey();
        theKeyIsToldFirstAndThenUpwards();
        onlyKeysAboveAreTold();
        onlyWatchesWithTheKindAreTold();
        aWatchThatWasToldIsNotToldAgain();
        aToldWatchKeepsItsNoticeUntilTaken();
        aWatchIsToldAgainWhenWatchedAnew();
        deletingEndsAWatchWithItsNotice();
        deletingIsAChangeOfSubkeysAlone();
        aRefusedCallIsToldToNone();
        watchTakesKeysThatExist();
        watchTakesKindsInRange();
        watchMayBeDeepOrNot();
        watchEndsTheNoticeOfTheOneBefore();
        watchAnswersWhetherThereWasNone();
        takeNoticeAnswersTheFirstTold();
        takeNoticeAnswersFromTheLeastToTheGreatest();
        takeNoticeAnswersNothingIfThereIsNone();
        Check.end("WatchEdgesTest");
    }

    private static void notices(String when, Counted x, int... due) {
        for (int notice : due) {
            Check.due("takeNotice() " + when, x.takeNotice(), notice);
        }
        Check.due("takeNotice() at last, " + when, x.takeNotice(), -1);
    }

    /** The keys 1 to 3, each below the one before, and a watch of the key 1. */
    private static Counted watched(int kinds, boolean isDeep) {
        Counted x = Builds.chain(3);
        x.watch(1, kinds, isDeep);
        return x;
    }

    // ---- watches

    /**
     * Watches: "A watch of a key has kinds of changes, told by a number: 1 for subkeys (one is made,
     *     renamed or deleted)"
     */
    private static void makingRenamingAndDeletingAreChangesOfSubkeys() {
        Counted x = watched(SUBKEYS, false);
        x.make(1, 1);
        notices("behind make()", x, 11);
        x.watch(1, SUBKEYS, false);
        x.makeLink(1, 2, 0);
        notices("behind makeLink()", x, 11);
        x.watch(1, SUBKEYS, false);
        x.rename(2, 3);
        notices("behind rename()", x, 11);
        x.watch(1, SUBKEYS, false);
        x.delete(5);
        notices("behind delete()", x, 11);
    }

    /** Watches: "2 for values (one is set, resized, also to the same length, or dropped)" */
    private static void settingResizingAndDroppingAreChangesOfValues() {
        Counted x = watched(VALUES, false);
        x.setValue(1, 0, 0, 0);
        notices("behind setValue()", x, 12);
        x.watch(1, VALUES, false);
        x.resize(1, 0, 30);
        notices("behind resize()", x, 12);
        x.watch(1, VALUES, false);
        x.dropValue(1, 0);
        notices("behind dropValue()", x, 12);
    }

    /** Watches: "also to the same length" */
    private static void resizingToTheSameLengthIsAChange() {
        for (int length = 0; length <= 30; length += 5) {
            Counted x = watched(VALUES, false);
            x.setValue(1, 0, length, 0);
            notices("behind setValue()", x, 12);
            x.watch(1, VALUES, false);
            x.resize(1, 0, length);
            notices("behind resize() to the same length, " + length, x, 12);
        }
    }

    /** Watches: "one is set" */
    private static void settingAValueAsItIsIsAChange() {
        Counted x = watched(VALUES, false);
        x.setValue(1, 0, 3, 4);
        notices("behind setValue()", x, 12);
        x.watch(1, VALUES, false);
        x.setValue(1, 0, 3, 4);
        notices("behind the same setValue()", x, 12);
    }

    /** Watches: "4 for rights (they become others), added" */
    private static void otherRightsAreAChange() {
        Counted x = watched(RIGHTS, false);
        x.setRights(1, 1);
        notices("behind setRights()", x, 14);
        x.watch(1, RIGHTS, false);
        x.setRights(1, 0);
        notices("behind setRights() back", x, 14);
    }

    /** Watches: "(they become others)" */
    private static void theSameRightsAreNone() {
        Counted x = watched(RIGHTS, true);
        x.setRights(1, 0);
        x.setRights(2, 0);
        notices("behind setRights() to the same", x);
        x.setRights(2, 1);
        notices("behind setRights() to others", x, 14);
    }

    /**
     * Watches: "added"
     * Watches: "if they have its kind"
     */
    private static void kindsAreAdded() {
        for (int kinds = 1; kinds <= 7; kinds++) {
            for (int kind = 1; kind <= 4; kind *= 2) {
                Counted x = watched(kinds, false);
                change(x, 1, kind);
                int due = (kinds & kind) != 0 ? 10 + kind : -1;
                Check.due("takeNotice() of the kinds " + kinds + ", of " + kind, x.takeNotice(), due);
            }
        }
    }

    private static void change(Counted x, int key, int kind) {
        if (kind == SUBKEYS) {
            x.make(key, 500);
        } else if (kind == VALUES) {
            x.setValue(key, 50, 0, 0);
        } else {
            x.setRights(key, 50);
        }
    }

    /** Watches: "and it is deep or not" */
    private static void aWatchThatIsNotDeepIsToldOfItsKeyAlone() {
        for (int kind = 1; kind <= 4; kind *= 2) {
            Counted x = watched(7, false);
            change(x, 0, kind);
            change(x, 2, kind);
            change(x, 3, kind);
            notices("of a watch that is not deep", x);
            change(x, 1, kind);
            notices("of its key", x, 10 + kind);
        }
    }

    /** Watches: "and it is deep or not" */
    private static void aDeepWatchIsToldOfItsKeyAndAllBelow() {
        for (int kind = 1; kind <= 4; kind *= 2) {
            for (int key = 0; key <= 3; key++) {
                Counted x = watched(7, true);
                change(x, key, kind);
                Check.due("a deep watch, of the key " + key, x.takeNotice(), key == 0 ? -1 : 10 + kind);
                Check.due("and no more", x.takeNotice(), -1);
            }
        }
    }

    /** Watches: "A change is at the key whose subkeys, values or rights change." */
    private static void aChangeIsAtTheParentOfAMadeKey() {
        Counted x = Builds.chain(3);
        for (int key = 0; key <= 3; key++) {
            x.watch(key, 7, false);
        }
        x.rename(2, 9);
        notices("behind rename(), not of the key that is renamed", x, 11);
        x.make(2, 9);
        notices("behind make()", x, 21);
        x.setValue(3, 0, 0, 0);
        notices("behind setValue()", x, 32);
        x.watch(3, 7, false);
        x.setRights(3, 9);
        notices("behind setRights()", x, 34);
        x.watch(2, 7, false);
        x.delete(3);
        notices("behind delete()", x, 21);
        x.makeLink(0, 7, 1);
        notices("behind makeLink(), not of its target", x, 1);
    }

    /**
     * Watches: "The watch of this key is told of it, and then, one after the other upwards, so are the
     *     deep watches of all keys above"
     */
    private static void theKeyIsToldFirstAndThenUpwards() {
        Counted x = Builds.chain(79);
        for (int key = 0; key < 80; key++) {
            x.watch(key, 7, true);
        }
        x.setRights(79, 255);
        for (int key = 79; key >= 0; key--) {
            Check.due("takeNotice(), upwards", x.takeNotice(), 10 * key + RIGHTS);
        }
        notices("when the root was told", x);
    }

    /** Watches: "of all keys above" */
    private static void onlyKeysAboveAreTold() {
        Counted x = Builds.withSums(1, 2);
        x.make(1, 0);
        x.make(2, 0);
        for (int key = 0; key <= 4; key++) {
            x.watch(key, 7, true);
        }
        x.setValue(3, 0, 0, 0);
        notices("of the keys 3, 1 and 0", x, 32, 12, 2);
        x.makeLink(2, 1, 3);
        x.takeNotice();
        x.watch(3, 7, true);
        x.setValue(3, 0, 0, 0);
        notices("and not of a link to it", x, 32);
    }

    /** Watches: "if they have its kind" */
    private static void onlyWatchesWithTheKindAreTold() {
        for (int kind = 1; kind <= 4; kind *= 2) {
            Counted x = Builds.chain(7);
            for (int key = 1; key <= 7; key++) {
                x.watch(key, key, true);
            }
            change(x, 7, kind);
            for (int key = 7; key > 0; key--) {
                if ((key & kind) != 0) {
                    Check.due("takeNotice() of the kind " + kind, x.takeNotice(), 10 * key + kind);
                }
            }
            notices("of those with the kind", x);
        }
    }

    /** Watches: "and were not told of one before" */
    private static void aWatchThatWasToldIsNotToldAgain() {
        Counted x = watched(7, true);
        x.watch(0, 7, true);
        x.setRights(2, 1);
        x.setValue(1, 0, 0, 0);
        x.make(0, 9);
        notices("the first change, once each", x, 14, 4);
        x.setRights(2, 2);
        x.setValue(1, 0, 0, 0);
        x.make(0, 10);
        notices("also behind the taking", x);
    }

    /** Watches: "A told watch has a notice until this is taken" */
    private static void aToldWatchKeepsItsNoticeUntilTaken() {
        Counted x = watched(VALUES, false);
        x.setValue(1, 0, 0, 0);
        x.dropValue(1, 0);
        for (int i = 0; i < 100; i++) {
            x.rename(1, 1 - i % 2);
        }
        Check.flushWhole(x);
        notices("when much else was done", x, 12);
    }

    /** Watches: "it is not told again until the key is watched anew" */
    private static void aWatchIsToldAgainWhenWatchedAnew() {
        Counted x = watched(VALUES, false);
        x.setValue(1, 0, 0, 0);
        x.setValue(1, 0, 0, 0);
        notices("told once", x, 12);
        x.watch(2, VALUES, false);
        x.setValue(1, 0, 0, 0);
        notices("when another key is watched", x);
        x.watch(1, VALUES, false);
        notices("watched anew, and not told yet", x);
        x.setValue(1, 0, 0, 0);
        notices("watched anew", x, 12);
    }

    /** Watches: "Deleting a key ends its watch, with its notice." */
    private static void deletingEndsAWatchWithItsNotice() {
        Counted x = Builds.chain(3);
        x.watch(3, RIGHTS, false);
        x.watch(2, RIGHTS, false);
        x.setRights(3, 1);
        x.setRights(2, 1);
        x.delete(3);
        notices("of the key that is left", x, 24);
        Check.throwsIndex("watch() of the key that was deleted", () -> x.watch(3, 7, true) ? 1 : 0);
        Counted y = Builds.chain(3);
        y.watch(3, 7, true);
        y.delete(3);
        y.make(2, 0);
        y.setValue(4, 0, 0, 0);
        notices("of a watch that was not told", y);
        Check.due("watch() of another key of that name", y.watch(4, 7, true), true);
    }

    /**
     * Watches: "1 for subkeys (one is made, renamed or deleted)"
     * Watches: "or dropped"
     */
    private static void deletingIsAChangeOfSubkeysAlone() {
        Counted x = Builds.chain(3);
        x.setValue(3, 0, 30, 0);
        x.setRights(3, 9);
        x.watch(2, VALUES + RIGHTS, true);
        x.watch(0, 7, true);
        x.delete(3);
        notices("of the root alone, as the key 2 is not watched for subkeys", x, 1);
    }

    /** Watches: "is told of it" */
    private static void aRefusedCallIsToldToNone() {
        Counted x = Builds.withRoom(1);
        for (int key = 0; key <= 6; key++) {
            x.watch(key, 7, true);
        }
        Check.throwsState("make()", () -> x.make(1, 9));
        Check.throwsState("makeLink()", () -> x.makeLink(1, 9, 0));
        Check.throwsState("rename()", () -> x.rename(2, 9));
        Check.throwsState("delete()", () -> x.delete(5));
        Check.throwsState("setValue()", () -> x.setValue(6, 1, 0, 0));
        Check.throwsState("resize()", () -> x.resize(6, 0, 29));
        Check.throwsIndex("dropValue()", () -> x.dropValue(6, 1));
        Check.throwsState("setRights()", () -> x.setRights(6, 9));
        notices("behind calls that were refused", x);
        x.dropValue(6, 0);
        notices("behind one that was not", x, 62, 52, 12, 2);
    }

    // ---- promises 21 and 22

    /**
     * Promise 21: "`key`: a key"
     * Promise 21: "Throws `IndexOutOfBoundsException` if there is no such key"
     */
    private static void watchTakesKeysThatExist() {
        Twins.noSuchKey("watch()", (x, key) -> x.watch(key, 1, true) ? 1 : 0);
        Counted x = Builds.chain(79);
        Check.due("watch() of the root", x.watch(0, 1, false), true);
        Check.due("watch() of the last key", x.watch(79, 1, false), true);
        Check.due("watch() of a link", Builds.links(1).watch(2, 1, true), true);
    }

    /**
     * Promise 21: "`kinds`: 1 to 7"
     * Promise 21: "Throws `IllegalArgumentException` if kinds is out of range"
     */
    private static void watchTakesKindsInRange() {
        Twins.outOfRange("watch()", 1, 7, (x, kinds) -> x.watch(1, kinds, true) ? 1 : 0);
        Twins.outOfRange("watch() of one without", 1, 7, (x, kinds) -> new Counted().watch(0, kinds, false) ? 1 : 0);
        for (int kinds = 1; kinds <= 7; kinds++) {
            Check.due("watch() of the kinds " + kinds, new Counted().watch(0, kinds, true), true);
        }
    }

    /** Promise 21: "`isDeep`: whether it is deep" */
    private static void watchMayBeDeepOrNot() {
        Counted x = watched(VALUES, false);
        x.setValue(2, 0, 0, 0);
        notices("of one that is not deep", x);
        x.watch(1, VALUES, true);
        x.setValue(2, 0, 0, 0);
        notices("of one that is deep in place of it", x, 12);
        x.watch(1, VALUES, false);
        x.setValue(2, 0, 0, 0);
        notices("of one that is not deep in place of that", x);
        Counted y = Builds.chain(79);
        y.watch(79, VALUES, true);
        y.setValue(79, 0, 0, 0);
        notices("of a deep one with nothing below", y, 792);
    }

    /** Promise 21: "Watches a key, in place of the watch that it may have, whose notice is gone then." */
    private static void watchEndsTheNoticeOfTheOneBefore() {
        Counted x = watched(VALUES, false);
        x.watch(2, VALUES, false);
        x.setValue(1, 0, 0, 0);
        x.setValue(2, 0, 0, 0);
        x.watch(1, RIGHTS, false);
        notices("of the other key alone", x, 22);
        x.setValue(1, 0, 0, 0);
        notices("of a kind that is watched no more", x);
        x.setRights(1, 9);
        notices("of the kind that is watched now", x, 14);
        x.watch(1, RIGHTS, false);
        x.watch(2, RIGHTS, false);
        x.setRights(1, 8);
        x.setRights(2, 8);
        x.watch(1, RIGHTS, false);
        x.setRights(1, 7);
        notices("told anew, and so told last", x, 24, 14);
    }

    /**
     * Promise 21: "Returns true if it had no watch; a told one, whose notice was taken or not, is a
     *     watch still."
     */
    private static void watchAnswersWhetherThereWasNone() {
        Counted x = Builds.chain(2);
        Check.due("watch() of none", x.watch(1, 1, false), true);
        Check.due("watch() of one that was not told", x.watch(1, 1, false), false);
        x.make(1, 1);
        Check.due("watch() of one that was told", x.watch(1, 1, false), false);
        x.make(1, 2);
        notices("of it", x, 11);
        Check.due("watch() of one whose notice was taken", x.watch(1, 1, false), false);
        Check.due("watch() of another key", x.watch(2, 1, false), true);
        Check.throwsArgument("watch() of the kinds 0", () -> x.watch(0, 0, false) ? 1 : 0);
        Check.due("watch() behind one that was refused", x.watch(0, 1, false), true);
        x.crash();
        Check.due("watch() behind a crash", x.watch(0, 1, false), true);
    }

    /** Promise 22: "Takes the notice that was told first of those that are there." */
    private static void takeNoticeAnswersTheFirstTold() {
        Counted x = Builds.chain(79);
        int[] order = {40, 0, 79, 1, 39, 78};
        for (int key : order) {
            x.watch(key, VALUES, false);
        }
        for (int i = order.length - 1; i >= 0; i--) {
            x.setValue(order[i], 0, 0, 0);
        }
        for (int i = order.length - 1; i >= 2; i--) {
            Check.due("takeNotice() in the order of telling", x.takeNotice(), 10 * order[i] + VALUES);
        }
        x.watch(78, VALUES, false);
        x.setValue(78, 0, 0, 0);
        notices("with one told anew", x, 2, 402, 782);
    }

    /** Promise 22: "Returns 10 * the key that is watched + the kind of the change" */
    private static void takeNoticeAnswersFromTheLeastToTheGreatest() {
        Counted x = Builds.chain(78);
        x.watch(0, 7, true);
        Check.due("make() of the last key", x.make(78, 0), 79);
        notices("the least: of subkeys, at the root", x, 1);
        x.watch(79, 7, false);
        x.setRights(79, 255);
        notices("the greatest: of rights, at the last key", x, 794);
    }

    /** Promise 22: "-1 if there is no notice" */
    private static void takeNoticeAnswersNothingIfThereIsNone() {
        Counted x = new Counted();
        Check.due("takeNotice() of a new registry", x.takeNotice(), -1);
        x.make(0, 0);
        Check.due("takeNotice() without a watch", x.takeNotice(), -1);
        x.watch(0, 7, true);
        Check.due("takeNotice() of a watch that was not told", x.takeNotice(), -1);
        x.make(0, 1);
        Check.due("takeNotice() of one that was", x.takeNotice(), 1);
        Check.due("takeNotice() again", x.takeNotice(), -1);
    }
}
