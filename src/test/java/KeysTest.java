/** Promises 2 and 4 to 8: make, rename, delete, find, subkeyAt, list. */
public final class KeysTest {
    public static void main(String[] args) {
        makeNumbersKeysAndGetsTheirCells();
        makeRefusesWhatItMust();
        makeEndsAtEightyKeys();
        leavesSplitThreeAndTwo();
        entriesBelongToTheLastLeafAhead();
        listIsFullAtEightLeaves();
        renameMovesTheEntry();
        renameTakesTheNewEntryInFirst();
        renameMayEndALeafAndTheIndex();
        renameRefusesWhatItMust();
        deleteGivesBackAllThatTheKeyHad();
        deleteGivesBackLeavesAndTheIndex();
        deleteRefusesWhatItMust();
        findFindsByName();
        subkeyAtGoesBySumThenName();
        listCountsSubkeysAndLeaves();
        Check.end("KeysTest");
    }

    private static void makeNumbersKeysAndGetsTheirCells() {
        Counted x = new Counted();
        Check.due("the 1st make", x.make(0, 0), 1);
        Check.due("its cell is the first free one", x.place(1), 12);
        Check.due("its cell's size", x.cell(12), 6);
        Check.due("the leaf lies behind it", x.cell(18), 5);
        Check.due("the 2nd make, with the greatest name", x.make(1, 9999), 2);
        Check.due("the same name below another key", x.make(2, 0), 3);
        Check.due("used by three keys", x.used(), 8 + 3 * 11);
        Check.due("delete(3)", x.delete(3), 11);
        Check.due("a number is not given again", x.make(2, 0), 4);
        Check.due("but a place is", x.place(4), 34);
        Check.due("rights are those of the parent", x.sharers(0), 4);
    }

    private static void makeRefusesWhatItMust() {
        Counted x = new Counted();
        x.make(0, 7);
        x.makeLink(0, 8, 1);
        String before = Check.fileOf(x);
        Check.throwsIndex("make(-1, 0)", () -> x.make(-1, 0));
        Check.throwsIndex("make(3, 0)", () -> x.make(3, 0));
        Check.throwsIndex("make(80, 0)", () -> x.make(80, 0));
        Check.throwsIndex("make(MAX, 0)", () -> x.make(Integer.MAX_VALUE, 0));
        Check.throwsIndex("make(MIN, 0)", () -> x.make(Integer.MIN_VALUE, 0));
        Check.throwsIndex("make(3, -1)", () -> x.make(3, -1));
        Check.throwsArgument("make(0, -1)", () -> x.make(0, -1));
        Check.throwsArgument("make(0, 10000)", () -> x.make(0, 10000));
        Check.throwsArgument("make(link, 10000)", () -> x.make(2, 10000));
        Check.throwsState("make(link, 0)", () -> x.make(2, 0));
        Check.throwsState("make(0, 7)", () -> x.make(0, 7));
        Check.throwsState("make(0, 8)", () -> x.make(0, 8));
        Check.sameFile("make() threw", before, x);
        Check.due("the next key", x.make(0, 9), 3);
    }

    private static void makeEndsAtEightyKeys() {
        Counted x = new Counted();
        for (int i = 1; i < 80; i++) {
            Check.due("make of a long chain", x.make(i - 1, i), i);
        }
        Check.due("delete(79)", x.delete(79), 11);
        String before = Check.fileOf(x);
        Check.throwsState("make(0, 99) behind 80 keys", () -> x.make(0, 99));
        Check.throwsState("makeLink(0, 99, 0) behind 80 keys", () -> x.makeLink(0, 99, 0));
        Check.throwsIndex("list(80)", () -> x.list(80));
        Check.sameFile("80 keys were made", before, x);
    }

    private static void leavesSplitThreeAndTwo() {
        Counted x = Builds.withSums(0, 10, 20, 30);
        Check.due("a leaf has 4 entries", x.list(0), 41);
        int before = x.used();
        x.make(0, Builds.nameOfSum(5));
        Check.due("got are key, index and leaf", x.used() - before, 6 + 9 + 5);
        Check.due("the index is got ahead of the leaf", x.cell(x.place(5) + 6), 9);
        Check.due("the leaf is got behind the index", x.cell(x.place(5) + 15), 5);
        Check.due("list(0) behind a split", x.list(0), 52);
        // 0 5 10 | 20 30, so that one more below 20 fits, and the next one splits again.
        x.make(0, Builds.nameOfSum(15));
        Check.due("the first leaf has 4", x.list(0), 62);
        x.make(0, Builds.nameOfSum(16));
        Check.due("the first leaf is split", x.list(0), 73);
        // 0 5 10 | 15 16 | 20 30: the new leaf lies right behind the one that was split.
        x.delete(x.find(0, Builds.nameOfSum(15)));
        x.delete(x.find(0, Builds.nameOfSum(16)));
        Check.due("the leaf in the middle has gone", x.list(0), 52);
        x.delete(x.find(0, Builds.nameOfSum(0)));
        x.delete(x.find(0, Builds.nameOfSum(5)));
        x.delete(x.find(0, Builds.nameOfSum(10)));
        Check.due("the first leaf has gone", x.list(0), 21);
        for (int sum = 0; sum < 5; sum++) {
            // The new entry comes in at each place of the five in turn.
            Counted y = new Counted();
            for (int i = 0; i < 4; i++) {
                y.make(0, Builds.nameOfSum(2 * i + 1));
            }
            y.make(0, Builds.nameOfSum(2 * sum));
            for (int i = 0; i < 5; i++) {
                int due = i == sum ? 5 : i < sum ? i + 1 : i;
                Check.due("subkeyAt(0, " + i + ") behind a split", y.subkeyAt(0, i), due);
            }
            y.delete(y.subkeyAt(0, 0));
            y.delete(y.subkeyAt(0, 0));
            Check.due("list(0) without two of the first three", y.list(0), 32);
            y.delete(y.subkeyAt(0, 0));
            Check.due("list(0) without the first three", y.list(0), 21);
        }
    }

    private static void entriesBelongToTheLastLeafAhead() {
        // 0 1 2 | 10 20 becomes 0 1 2 3 | 10 20; what is between 3 and 10 would still go to the first.
        Counted x = Builds.withSums(0, 1, 2, 10, 20, 3);
        Check.due("two leaves", x.list(0), 62);
        x.make(0, Builds.nameOfSum(9));
        Check.due("the first leaf took it, and was split", x.list(0), 73);
        // 5 | 10 20 ..: what is ahead of all goes to the first leaf, and becomes its first entry.
        Counted y = Builds.withSums(5, 6, 7, 10, 20);
        y.make(0, Builds.nameOfSum(0));
        y.make(0, Builds.nameOfSum(1));
        Check.due("the first leaf was split", y.list(0), 73);
        Check.due("the least sum is first", y.subkeyAt(0, 0), 6);
        Check.due("then the next", y.subkeyAt(0, 1), 7);
    }

    private static void listIsFullAtEightLeaves() {
        Counted x = new Counted();
        for (int sum = 0; sum < 25; sum++) {
            x.make(0, Builds.nameOfSum(2 * sum));
        }
        // Seven leaves of 3, and the last one of 4.
        Check.due("list(0) with 8 leaves", x.list(0), 258);
        String before = Check.fileOf(x);
        Check.throwsState("make for a ninth leaf", () -> x.make(0, Builds.nameOfSum(63)));
        Check.throwsState("makeLink for a ninth leaf", () -> x.makeLink(0, Builds.nameOfSum(63), 0));
        Check.throwsState("rename for a ninth leaf", () -> x.rename(25, Builds.nameOfSum(63)));
        Check.sameFile("the list was full", before, x);
        Check.due("make in a leaf of 3", x.make(0, Builds.nameOfSum(1)), 26);
        Check.throwsState("make in that leaf again", () -> x.make(0, Builds.nameOfSum(3)));
        Check.due("rename into a leaf of 3", x.rename(25, Builds.nameOfSum(7)), Builds.nameOfSum(48));
        Check.due("rename into the last leaf", x.rename(24, Builds.nameOfSum(63)), Builds.nameOfSum(46));
        Check.due("list(0) with 8 leaves still", x.list(0), 268);
    }

    private static void renameMovesTheEntry() {
        Counted x = Builds.withSums(0, 10, 20);
        x.make(1, 5);
        x.setValue(1, 1, 1, 1);
        int before = x.used();
        Check.due("rename(1, ..)", x.rename(1, Builds.nameOfSum(30)), Builds.nameOfSum(0));
        Check.due("find() of the name before", x.find(0, Builds.nameOfSum(0)), -1);
        Check.due("find() of the name now", x.find(0, Builds.nameOfSum(30)), 1);
        Check.due("subkeyAt(0, 0)", x.subkeyAt(0, 0), 2);
        Check.due("subkeyAt(0, 2)", x.subkeyAt(0, 2), 1);
        Check.due("its subkeys stay", x.find(1, 5), 4);
        Check.due("its values stay", x.unit(1, 1, 0), 31);
        Check.due("used()", x.used(), before);
        Check.due("rename(1, 9999)", x.rename(1, 9999), Builds.nameOfSum(30));
        Check.due("rename(1, 0)", x.rename(1, 0), 9999);
        Check.due("a name that is free again", x.make(0, 9999), 5);
    }

    private static void renameTakesTheNewEntryInFirst() {
        Counted x = Builds.withSums(0, 10, 20, 30);
        int before = x.used();
        x.rename(1, Builds.nameOfSum(40));
        // 0 10 20 | 30 40, and then 0 goes.
        Check.due("the leaf was split", x.list(0), 42);
        Check.due("index and leaf were got", x.used() - before, 14);
        x.delete(2);
        Check.due("the first leaf has one entry", x.list(0), 32);
        Check.due("delete of that gives back leaf and index", x.delete(3), 20);
    }

    private static void renameMayEndALeafAndTheIndex() {
        Counted x = Builds.withSums(0, 10, 20, 30, 40);
        x.delete(5);
        // 0 10 20 | 30: the entry goes to the first leaf, and the second one is empty.
        int before = x.used();
        x.rename(4, Builds.nameOfSum(5));
        Check.due("one leaf is left", x.list(0), 41);
        Check.due("leaf and index were given back", before - x.used(), 14);
        Check.due("subkeyAt(0, 1)", x.subkeyAt(0, 1), 4);
        Counted y = Builds.withSums(0);
        y.rename(1, 77);
        Check.due("the only leaf stays", y.list(0), 11);
        Check.due("used() with it", y.used(), 19);
    }

    private static void renameRefusesWhatItMust() {
        Counted x = new Counted();
        x.make(0, 1);
        x.make(0, 2);
        x.make(1, 3);
        String before = Check.fileOf(x);
        Check.throwsIndex("rename(-1, 0)", () -> x.rename(-1, 0));
        Check.throwsIndex("rename(4, 0)", () -> x.rename(4, 0));
        Check.throwsIndex("rename(4, -1)", () -> x.rename(4, -1));
        Check.throwsArgument("rename(1, -1)", () -> x.rename(1, -1));
        Check.throwsArgument("rename(1, 10000)", () -> x.rename(1, 10000));
        Check.throwsArgument("rename(0, 10000)", () -> x.rename(0, 10000));
        Check.throwsState("rename(0, 5)", () -> x.rename(0, 5));
        Check.throwsState("rename(1, 2)", () -> x.rename(1, 2));
        Check.throwsState("rename(1, 1)", () -> x.rename(1, 1));
        Check.sameFile("rename() threw", before, x);
        Check.due("rename(3, 1), as only the parent's count", x.rename(3, 1), 3);
        Check.due("a link can be renamed", x.rename(x.makeLink(0, 4, 1), 5), 4);
    }

    private static void deleteGivesBackAllThatTheKeyHad() {
        Counted x = new Counted();
        x.make(0, 3);
        x.setValue(1, 1, 20, 0);
        x.setValue(1, 2, 1, 0);
        x.setRights(1, 5);
        // Pieces of 10, 10 and 6, two cells of 3, a value list of 5, key, rights and leaf.
        Check.due("delete(1)", x.delete(1), 10 + 10 + 6 + 3 + 3 + 5 + 6 + 2 + 5);
        Check.due("used()", x.used(), 8);
        Check.due("all other units are one free cell", x.cell(12), 12 - 16 * x.sectors());
        Check.due("sharers(5)", x.sharers(5), 0);
        Check.due("find(0, 3)", x.find(0, 3), -1);
        Check.throwsIndex("place(1)", () -> x.place(1));
        Check.throwsIndex("delete(1) again", () -> x.delete(1));
        x.make(0, 3);
        for (int name = 0; name < 5; name++) {
            x.setValue(2, name, 0, 0);
        }
        x.dropValue(2, 0);
        x.dropValue(2, 1);
        Check.due("delete(2) with the long value list", x.delete(2), 3 * 3 + 9 + 6 + 5);
        Check.due("used()", x.used(), 8);
    }

    private static void deleteGivesBackLeavesAndTheIndex() {
        Counted y = Builds.withSums(0, 10, 20, 30, 40, 50, 55, 60);
        Check.due("list(0)", y.list(0), 83);
        Check.due("delete(8)", y.delete(8), 6);
        Check.due("delete(7) with a leaf, beside an index that stays", y.delete(7), 6 + 5);
        Counted x = Builds.withSums(0, 10, 20, 30, 40);
        Check.due("delete(5)", x.delete(5), 6);
        Check.due("delete(4) with leaf and index", x.delete(4), 6 + 5 + 9);
        Check.due("list(0)", x.list(0), 31);
        x.setRights(1, 9);
        Check.due("delete(1) with the last rights", x.delete(1), 8);
        Check.due("delete(2)", x.delete(2), 6);
        Check.due("delete(3) with the last leaf", x.delete(3), 11);
        Check.due("list(0)", x.list(0), 0);
        Check.due("used()", x.used(), 8);
    }

    private static void deleteRefusesWhatItMust() {
        Counted x = new Counted();
        x.make(0, 1);
        x.make(1, 2);
        String before = Check.fileOf(x);
        Check.throwsIndex("delete(-1)", () -> x.delete(-1));
        Check.throwsIndex("delete(3)", () -> x.delete(3));
        Check.throwsIndex("delete(MIN)", () -> x.delete(Integer.MIN_VALUE));
        Check.throwsState("delete(0)", () -> x.delete(0));
        Check.throwsState("delete(1) with a subkey", () -> x.delete(1));
        Check.sameFile("delete() threw", before, x);
        Counted y = new Counted();
        Check.throwsState("delete(0) without subkeys", () -> y.delete(0));
        x.delete(2);
        Check.due("delete(1) without subkeys", x.delete(1), 11);
    }

    private static void findFindsByName() {
        Counted x = new Counted();
        for (int name = 0; name <= 640; name += 64) {
            x.make(0, name);
        }
        for (int key = 1; key <= 11; key++) {
            Check.due("find() of a name with the same sum", x.find(0, 64 * (key - 1)), key);
        }
        Check.due("find(0, 704)", x.find(0, 704), -1);
        Check.due("find(0, 1)", x.find(0, 1), -1);
        Check.due("find(0, 9999)", x.find(0, 9999), -1);
        Check.due("find(1, 64)", x.find(1, 64), -1);
        x.makeLink(1, 5, 0);
        Check.due("a link has no subkeys", x.find(12, 0), -1);
        Check.throwsIndex("find(13, 0)", () -> x.find(13, 0));
        Check.throwsIndex("find(-1, -1)", () -> x.find(-1, -1));
        Check.throwsArgument("find(0, -1)", () -> x.find(0, -1));
        Check.throwsArgument("find(0, 10000)", () -> x.find(0, 10000));
    }

    private static void subkeyAtGoesBySumThenName() {
        Counted x = new Counted();
        // The sums are 7, 0, 1, 0, 0, 41 and 63.
        int[] names = {1, 64, 55, 128, 0, 9999, 9};
        for (int name : names) {
            x.make(0, name);
        }
        int[] due = {5, 2, 4, 3, 1, 6, 7};
        for (int i = 0; i < due.length; i++) {
            Check.due("subkeyAt(0, " + i + ")", x.subkeyAt(0, i), due[i]);
        }
        Check.throwsIndex("subkeyAt(0, 7)", () -> x.subkeyAt(0, 7));
        Check.throwsIndex("subkeyAt(0, -1)", () -> x.subkeyAt(0, -1));
        Check.throwsIndex("subkeyAt(0, MAX)", () -> x.subkeyAt(0, Integer.MAX_VALUE));
        Check.throwsIndex("subkeyAt(0, MIN)", () -> x.subkeyAt(0, Integer.MIN_VALUE));
        Check.throwsIndex("subkeyAt(1, 0)", () -> x.subkeyAt(1, 0));
        Check.throwsIndex("subkeyAt(8, 0)", () -> x.subkeyAt(8, 0));
    }

    private static void listCountsSubkeysAndLeaves() {
        Counted x = Builds.withSums(0, 1, 2, 3, 4, 5, 6, 7);
        // 0 1 2 | 3 4 5 | 6 7
        Check.due("list(0)", x.list(0), 83);
        Check.due("list(1)", x.list(1), 0);
        x.make(1, 0);
        Check.due("list(1) with a subkey", x.list(1), 11);
        x.makeLink(1, 1, 0);
        Check.due("list(1) with a link", x.list(1), 21);
        Check.due("list() of a link", x.list(10), 0);
        Check.throwsIndex("list(11)", () -> x.list(11));
        Check.throwsIndex("list(-1)", () -> x.list(-1));
    }
}
