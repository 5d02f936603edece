import java.util.function.Supplier;

/**
 * The edges of keys and lists, and of the promises 1, 2 and 4 to 8: a new object, make, rename,
 * delete, find, subkeyAt, list. The promises 3 and 9 are in LinkEdgesTest.
 */
public final class KeyEdgesTest {
    public static void main(String[] args) {
        keysAreNumberedFromZeroToSeventyNine();
        theRootIsThereAlways();
        theRootHasTheNameAndTheRightsZero();
        aNumberIsNotGivenAgain();
        behindACrashTheNextNumberIsAsItWas();
        namesAreZeroTo9999();
        noTwoSubkeysHaveTheSameName();
        aNameIsFreeBehindDeleteAndRename();
        eachKeyHasACellOfSixUnits();
        theSumIsARemainder();
        subkeysOfTheSameSumGoByNames();
        aLeafHasOneToFourEntries();
        aListWithTwoLeavesHasAnIndex();
        aListHasEightLeavesAtMost();
        anEmptyListGetsALeaf();
        anEntryBelongsToTheLastLeafAhead();
        anEntryWithTheSumOfAFirstEntryGoesByItsName();
        anEntryAheadOfAllBelongsToTheFirstLeaf();
        aLeafOfThreeTakesAFourth();
        aNewLeafLiesRightBehind();
        ofFiveEntriesThreeStay();
        theIndexIsGotAheadOfTheLeaf();
        anIndexIsGotOnceForAList();
        aListIsFullIfItWouldHaveNineLeaves();
        anEmptyLeafIsGivenBack();
        theIndexIsGivenBackIfOneLeafIsLeft();
        aLeafWithAnEntryLeftStays();
        makingNeedsTheKeyThenTheList();
        renamingLetsTheNewEntryInFirst();
        renamingMayEndTheLeafOfTheOldEntry();
        renamingTheOnlySubkeyNeedsNoRoom();
        renamingInAFullListNeedsALeafWithRoom();
        deletingGivesBackTheLeastAndTheMost();
        aNewObjectHasTheRootAlone();
        makeTakesKeysThatExist();
        makeTakesNamesInRange();
        makeIsRefusedBelowALink();
        makeIsRefusedForANameThatIsThere();
        makeIsRefusedForAFullList();
        makeIsRefusedBehindEightyKeys();
        makeIsRefusedWithoutRoom();
        renameTakesKeysThatExist();
        renameTakesNamesInRange();
        renameIsRefusedForTheRoot();
        renameIsRefusedForANameThatIsThere();
        renameIsRefusedForAFullList();
        renameIsRefusedWithoutRoom();
        deleteTakesKeysThatExist();
        deleteIsRefusedForTheRoot();
        deleteIsRefusedForAKeyWithSubkeys();
        findTakesKeysThatExist();
        findTakesNamesInRange();
        findAnswersNothingBesideTheNames();
        subkeyAtTakesKeysThatExist();
        subkeyAtTakesPlacesInTheList();
        listTakesKeysThatExist();
        listAnswersFromNoneToTheMost();
        Check.end("KeyEdgesTest");
    }

    // ---- keys and lists

    /** Keys and lists: "Keys are numbered from 0, at most 80 in all" */
    private static void keysAreNumberedFromZeroToSeventyNine() {
        Counted x = new Counted();
        Check.due("list(0), of the first key", x.list(0), 0);
        for (int key = 1; key <= 79; key++) {
            Check.due("make()", x.make(key - 1, 9999 - key), key);
        }
        Check.due("sharers(0)", x.sharers(0), 80);
        Check.throwsState("make() of a key 80", () -> x.make(79, 0));
        Check.throwsState("makeLink() of a key 80", () -> x.makeLink(0, 0, 79));
        Check.throwsIndex("list(80)", () -> x.list(80));
        Check.due("rename() of the last one", x.rename(79, 0), 9999 - 79);
        Check.due("delete() of it", x.delete(79), 11);
    }

    /** Keys and lists: "the key 0 is the root, which is there always" */
    private static void theRootIsThereAlways() {
        Counted x = new Counted();
        Check.throwsState("delete(0)", () -> x.delete(0));
        x.make(0, 1);
        x.delete(1);
        Check.throwsState("delete(0) when all others have gone", () -> x.delete(0));
        x.crash();
        Check.due("place(0) behind a crash", x.place(0), 4);
        Check.due("make(0, 1) behind a crash", x.make(0, 1), 1);
    }

    /** Keys and lists: "has the name 0 and the rights 0" */
    private static void theRootHasTheNameAndTheRightsZero() {
        Counted x = new Counted();
        Check.due("setRights(0, 255)", x.setRights(0, 255), 0);
        Check.throwsState("rename(0, 0)", () -> x.rename(0, 0));
        Check.due("find(0, 0), as the root is no subkey", x.find(0, 0), -1);
        Check.due("make(0, 0), as a subkey may have its name", x.make(0, 0), 1);
    }

    /** Keys and lists: "A number is not given again" */
    private static void aNumberIsNotGivenAgain() {
        Counted x = new Counted();
        for (int key = 1; key <= 79; key++) {
            Check.due("make() behind a delete()", x.make(0, 7), key);
            Check.due("delete()", x.delete(key), 11);
            Check.throwsIndex("follow() of what was deleted", () -> x.follow(1));
        }
        Check.throwsState("make() behind 80 keys, of which one is there", () -> x.make(0, 7));
        Check.sameCells("the root alone", "4:6 10:2 12:-20", x);
    }

    /** Keys and lists: "(but behind a crash the next number, too, is as it was)" */
    private static void behindACrashTheNextNumberIsAsItWas() {
        Counted x = new Counted();
        x.make(0, 1);
        x.crash();
        Check.due("make() behind a crash without a flush", x.make(0, 2), 1);
        x.make(0, 3);
        x.delete(2);
        Check.flushWhole(x);
        Check.due("make() behind a flush", x.make(0, 3), 3);
        x.delete(3);
        x.crash();
        Check.due("make() behind a crash: 2 was deleted ahead of the flush, 3 behind it", x.make(0, 9), 3);
        Counted y = Builds.chain(78);
        Check.flushWhole(y);
        Check.due("make() of the last key", y.make(0, 9), 79);
        Check.throwsState("make() behind 80 keys", () -> y.make(0, 10));
        y.crash();
        Check.due("make() of the last key behind a crash", y.make(0, 10), 79);
        Check.throwsState("make() behind 80 keys again", () -> y.make(0, 11));
        Check.flushWhole(y);
        y.crash();
        Check.throwsState("make() behind a crash with 80 keys", () -> y.make(0, 11));
    }

    /** Keys and lists: "A key has a name, 0 to 9999" */
    private static void namesAreZeroTo9999() {
        Counted x = new Counted();
        Check.due("make(0, 0)", x.make(0, 0), 1);
        Check.due("makeLink(0, 9999, 0)", x.makeLink(0, 9999, 0), 2);
        Check.due("find(0, 0)", x.find(0, 0), 1);
        Check.due("find(0, 9999)", x.find(0, 9999), 2);
        x.delete(2);
        Check.due("rename(1, 9999)", x.rename(1, 9999), 0);
        Check.due("rename(1, 0)", x.rename(1, 0), 9999);
        Check.throwsArgument("make(0, 10000)", () -> x.make(0, 10000));
        Check.throwsArgument("make(0, -1)", () -> x.make(0, -1));
    }

    /** Keys and lists: "no two subkeys of a key have the same" */
    private static void noTwoSubkeysHaveTheSameName() {
        Counted x = new Counted();
        x.make(0, 5);
        x.makeLink(0, 6, 0);
        Check.throwsState("make(0, 5)", () -> x.make(0, 5));
        Check.throwsState("makeLink(0, 5, 0)", () -> x.makeLink(0, 5, 0));
        Check.throwsState("make(0, 6), the name of a link", () -> x.make(0, 6));
        Check.throwsState("rename(2, 5)", () -> x.rename(2, 5));
        Check.due("make(1, 5), below another key", x.make(1, 5), 3);
        Check.due("make(0, 69), with the same sum", x.make(0, 69), 4);
        Counted y = Builds.withFullList();
        Check.throwsState("make() of the first name of the last leaf", () -> y.make(0, Builds.nameOfSum(42)));
    }

    /** Keys and lists: "no two subkeys of a key have the same" */
    private static void aNameIsFreeBehindDeleteAndRename() {
        Counted x = new Counted();
        x.make(0, 5);
        x.rename(1, 6);
        Check.throwsState("make(0, 6)", () -> x.make(0, 6));
        Check.due("make(0, 5), which was a name", x.make(0, 5), 2);
        x.delete(1);
        Check.due("make(0, 6), which was a name", x.make(0, 6), 3);
        Check.throwsState("make(0, 6) again", () -> x.make(0, 6));
    }

    /** Keys and lists: "Each key has a cell of 6 units." */
    private static void eachKeyHasACellOfSixUnits() {
        Counted x = Builds.chain(78);
        x.makeLink(0, 1, 3);
        for (int key = 0; key <= 79; key++) {
            Check.due("the cell of the key " + key, x.cell(x.place(key)), 6);
        }
    }

    /**
     * Keys and lists: "The sum of a name is the remainder of 7 times the name by 64."
     * Keys and lists: "Subkeys are listed by rising sums"
     */
    private static void theSumIsARemainder() {
        // 7 * 9 is 63, the greatest sum; 7 * 10 is 64 + 6, 7 * 55 is 6 * 64 + 1, 7 * 9999 is 1093 * 64 + 41.
        listedAre(new int[] {9, 10, 55, 9999, 1}, 55, 10, 1, 9999, 9);
        for (int sum = 1; sum < 64; sum++) {
            listedAre(new int[] {Builds.nameOfSum(sum), Builds.nameOfSum(sum - 1) + 64 * 140},
                    Builds.nameOfSum(sum - 1) + 64 * 140, Builds.nameOfSum(sum));
        }
    }

    private static void listedAre(int[] made, int... due) {
        Counted x = new Counted();
        for (int name : made) {
            x.make(0, name);
        }
        for (int i = 0; i < due.length; i++) {
            Check.due("subkeyAt(0, " + i + ")", x.subkeyAt(0, i), x.find(0, due[i]));
        }
    }

    /** Keys and lists: "those of the same sum by rising names" */
    private static void subkeysOfTheSameSumGoByNames() {
        listedAre(new int[] {9984, 64, 0, 128}, 0, 64, 128, 9984);
        listedAre(new int[] {0, 64, 128, 9984}, 0, 64, 128, 9984);
        // The sums are 63 and 0: the greatest name of a sum is ahead of the least one of the next.
        listedAre(new int[] {9, 9993, 9984}, 9984, 9, 9993);
        Counted x = new Counted();
        for (int i = 17; i >= 0; i--) {
            x.make(0, 64 * i);
        }
        for (int i = 0; i < 18; i++) {
            Check.due("subkeyAt() of 18 with one sum", x.subkeyAt(0, i), 18 - i);
        }
    }

    /** Keys and lists: "A list is made of leaves, which are cells of 5 units with 1 to 4 entries" */
    private static void aLeafHasOneToFourEntries() {
        Counted x = new Counted();
        for (int key = 1; key <= 4; key++) {
            x.make(0, Builds.nameOfSum(key));
            Check.due("list(0), one leaf", x.list(0), 10 * key + 1);
        }
        Check.due("the leaf", x.cell(18), 5);
        for (int key = 1; key <= 3; key++) {
            x.delete(key);
            Check.due("list(0), one leaf", x.list(0), 10 * (4 - key) + 1);
        }
        Check.due("delete() of the last one", x.delete(4), 11);
        Check.due("list(0), no leaf", x.list(0), 0);
        Counted y = Builds.withSums(1, 2, 3, 4, 5);
        Check.due("list(0) with a fifth", y.list(0), 52);
    }

    /** Keys and lists: "a list with two leaves or more, at most 8, has an index, a cell of 9 units, too" */
    private static void aListWithTwoLeavesHasAnIndex() {
        Counted x = Builds.withSums(1, 2, 3, 4);
        Check.due("used() with one leaf", x.used(), 8 + 4 * 6 + 5);
        x.make(0, Builds.nameOfSum(5));
        Check.due("used() with two leaves", x.used(), 8 + 5 * 6 + 2 * 5 + 9);
        Check.due("the index", x.cell(x.place(5) + 6), 9);
        Counted y = Builds.withEightLeaves();
        Check.due("used() with eight leaves", y.used(), 8 + 25 * 6 + 8 * 5 + 9);
        Check.due("usedByTree()", y.usedByTree(), 8 + 25 * 6 + 8 * 5 + 9);
    }

    /** Keys and lists: "at most 8" */
    private static void aListHasEightLeavesAtMost() {
        Counted x = Builds.withEightLeaves();
        Check.due("list(0)", x.list(0), 258);
        Check.throwsState("make() for a ninth leaf", () -> x.make(0, Builds.nameOfSum(50)));
        Check.due("list(0) then", x.list(0), 258);
    }

    /** Keys and lists: "An entry comes into a list so: without a leaf, one is got." */
    private static void anEmptyListGetsALeaf() {
        Counted x = new Counted();
        x.make(0, 1);
        Check.sameCells("a first subkey", "4:6 10:2 12:6 18:5 23:-9", x);
        x.make(0, 2);
        Check.sameCells("a second one", "4:6 10:2 12:6 18:5 23:6 29:-3", x);
        x.delete(1);
        x.delete(2);
        Check.sameCells("none", "4:6 10:2 12:-20", x);
        x.make(0, 3);
        Check.sameCells("a first one again", "4:6 10:2 12:6 18:5 23:-9", x);
    }

    /** In the leaves of x, of which this is one, the entries from..to-1 are all that it has. */
    private static void isALeaf(Counted x, int from, int to, int leavesThen) {
        for (int i = from; i < to; i++) {
            int units = i + 1 < to ? 6 : leavesThen == 1 ? 6 + 5 + 9 : 6 + 5;
            Check.due("delete() of the entry " + i + " of a leaf", x.delete(x.subkeyAt(0, from)), units);
        }
        Check.due("leaves without this one", x.list(0) % 10, leavesThen);
    }

    /** Keys and lists: "Otherwise it belongs to the last leaf whose first entry is ahead of it" */
    private static void anEntryBelongsToTheLastLeafAhead() {
        // 10 20 30 | 40 50: what is behind 40 belongs to the second leaf, what is ahead of it to the first.
        Counted x = Builds.withSums(10, 20, 30, 40, 50);
        x.make(0, Builds.nameOfSum(39));
        isALeaf(x, 0, 4, 1);
        Counted y = Builds.withSums(10, 20, 30, 40, 50);
        y.make(0, Builds.nameOfSum(41));
        isALeaf(y, 0, 3, 1);
        Counted z = Builds.withSums(10, 20, 30, 40, 50);
        z.make(0, Builds.nameOfSum(63));
        isALeaf(z, 0, 3, 1);
        // Three leaves: 10 20 30 | 40 50 52 | 54 60, and 53 belongs to the one in the middle.
        Counted m = Builds.withSums(10, 20, 30, 40, 50, 60, 52, 54);
        Check.due("list(0)", m.list(0), 83);
        m.make(0, Builds.nameOfSum(53));
        isALeaf(m, 0, 3, 2);
        isALeaf(m, 0, 4, 1);
    }

    /** Keys and lists: "whose first entry is ahead of it" */
    private static void anEntryWithTheSumOfAFirstEntryGoesByItsName() {
        // The second leaf begins with the sum 40 and a name between 24 and 24 + 128.
        for (int higher = 0; higher <= 1; higher++) {
            Counted x = Builds.withSums(10, 20, 30);
            Check.due("the name of the sum 40", Builds.nameOfSum(40), 24);
            x.make(0, 24 + 64);
            x.make(0, Builds.nameOfSum(50));
            Check.due("list(0)", x.list(0), 52);
            x.make(0, 24 + 128 * higher);
            isALeaf(x, 0, higher == 1 ? 3 : 4, 1);
        }
    }

    /** Keys and lists: "or to the first leaf, if there is none such" */
    private static void anEntryAheadOfAllBelongsToTheFirstLeaf() {
        Counted x = Builds.withSums(10, 20, 30, 40, 50);
        x.make(0, Builds.nameOfSum(9));
        isALeaf(x, 0, 4, 1);
        Counted y = Builds.withSums(10, 20, 30, 40, 50);
        y.make(0, Builds.nameOfSum(1));
        y.make(0, Builds.nameOfSum(0));
        Check.due("0 1 10 | 20 30 | 40 50", y.list(0), 73);
        isALeaf(y, 0, 3, 2);
        isALeaf(y, 0, 2, 1);
    }

    /** Keys and lists: "If that has fewer than 4 entries, it is put into it" */
    private static void aLeafOfThreeTakesAFourth() {
        for (int sum = 0; sum <= 6; sum += 2) {
            Counted x = Builds.withSums(1, 3, 5);
            int before = x.used();
            x.make(0, Builds.nameOfSum(sum));
            Check.due("a fourth entry", x.list(0), 41);
            Check.due("needs the cell of the key alone", x.used() - before, 6);
            Check.due("its place", x.subkeyAt(0, sum / 2), 4);
        }
        Counted y = Builds.withSums(1, 2, 3, 4, 5, 6);
        y.make(0, Builds.nameOfSum(7));
        Check.due("a fourth entry of a second leaf", y.list(0), 72);
        y.make(0, Builds.nameOfSum(0));
        Check.due("a fourth entry of a first leaf", y.list(0), 82);
        y.make(0, Builds.nameOfSum(8));
        Check.due("a fifth entry of a second leaf", y.list(0), 93);
    }

    /** Keys and lists: "otherwise a leaf is got, right behind that one" */
    private static void aNewLeafLiesRightBehind() {
        // 10 20 30 | 40 50 becomes 10 12 20 | 25 30 | 40 50.
        Counted x = Builds.withSums(10, 20, 30, 40, 50, 12);
        x.make(0, Builds.nameOfSum(25));
        Check.due("list(0)", x.list(0), 73);
        for (int i = 0; i < 7; i++) {
            Check.due("subkeyAt(0, " + i + ")", x.subkeyAt(0, i), new int[] {1, 6, 2, 7, 3, 4, 5}[i]);
        }
        isALeaf(x, 0, 3, 2);
        isALeaf(x, 0, 2, 1);
        Counted y = Builds.withEightLeaves();
        y.delete(y.subkeyAt(0, 21));
        for (int i = 0; i < 3; i++) {
            y.delete(y.subkeyAt(0, 21));
        }
        Check.due("list(0) with seven leaves", y.list(0), 217);
        y.make(0, Builds.nameOfSum(1));
        y.make(0, Builds.nameOfSum(3));
        Check.due("list(0) with eight leaves, as the first one was split", y.list(0), 238);
        for (int i = 1; i < 23; i++) {
            int name = i == 1 ? 1 : i == 3 ? 3 : i == 2 ? 2 : 2 * i - 4;
            Check.due("subkeyAt(0, " + i + ")", y.subkeyAt(0, i), y.find(0, Builds.nameOfSum(name)));
        }
    }

    /** Keys and lists: "of the 5 entries the first 3 stay, and the last 2 go into the new leaf" */
    private static void ofFiveEntriesThreeStay() {
        for (int sum = 0; sum <= 8; sum += 2) {
            Counted x = Builds.withSums(1, 3, 5, 7);
            x.make(0, Builds.nameOfSum(sum));
            isALeaf(x, 0, 3, 1);
            Check.due("the other two", x.list(0), 21);
        }
    }

    /** Keys and lists: "if the list has no index, one is got, too, and that ahead of the leaf in time" */
    private static void theIndexIsGotAheadOfTheLeaf() {
        Counted x = Builds.withSums(1, 2, 3, 4);
        Check.sameCells("one leaf", "4:6 10:2 12:6 18:5 23:6 29:6 35:6 41:-7", x);
        x.make(0, Builds.nameOfSum(5));
        Check.sameCells("key, index, leaf", "4:6 10:2 12:6 18:5 23:6 29:6 35:6 41:6 47:9 56:5 61:-3", x);
        // The leaf takes the hole that the index could not.
        Counted y = Builds.withSums(1, 2, 3, 4);
        y.setValue(1, 0, 3, 0);
        y.setValue(1, 1, 0, 0);
        y.resize(1, 0, 0);
        Check.sameCells("a hole of 5", "4:6 10:2 12:6 18:5 23:6 29:6 35:6 41:-5 46:3 49:5 54:3 57:-7", y);
        y.rename(1, Builds.nameOfSum(5));
        Check.sameCells("index, then leaf", "4:6 10:2 12:6 18:5 23:6 29:6 35:6 41:5 46:3 49:5 54:3 57:9 66:-14", y);
    }

    /** Keys and lists: "if the list has no index" */
    private static void anIndexIsGotOnceForAList() {
        Counted x = Builds.withSums(1, 2, 3, 4, 5, 6, 7);
        int before = x.used();
        x.make(0, Builds.nameOfSum(8));
        Check.due("key and leaf alone", x.used() - before, 6 + 5);
        Check.due("list(0)", x.list(0), 83);
    }

    /** Keys and lists: "If it would have 9 leaves, the list is full." */
    private static void aListIsFullIfItWouldHaveNineLeaves() {
        Counted x = Builds.withEightLeaves();
        for (int leaf = 0; leaf < 7; leaf++) {
            int taken = x.make(0, Builds.nameOfSum(6 * leaf + 1));
            int name = Builds.nameOfSum(6 * leaf + 3);
            Check.due("make() in a leaf of 3", taken, 26 + leaf);
            Check.throwsState("make() in a leaf of 4", () -> x.make(0, name));
        }
        Check.due("list(0), which can't be longer", x.list(0), 328);
        for (int sum = 1; sum < 64; sum += 2) {
            int name = Builds.nameOfSum(sum) + 64;
            Check.throwsState("make() in the longest list", () -> x.make(0, name));
        }
        x.delete(x.subkeyAt(0, 31));
        Check.due("make() in the last leaf again", x.make(0, Builds.nameOfSum(63)), 33);
        for (int i = 0; i < 4; i++) {
            x.delete(x.subkeyAt(0, 0));
        }
        Check.due("list(0) with a leaf less", x.list(0), 287);
        Check.due("make() for an eighth leaf", x.make(0, Builds.nameOfSum(63) + 64), 34);
        Check.due("list(0) with eight again", x.list(0), 298);
    }

    /**
     * Keys and lists: "An entry goes out of a list so: it is taken from its leaf; if that is empty
     *     then, its cell is given back"
     */
    private static void anEmptyLeafIsGivenBack() {
        for (int leaf = 0; leaf < 3; leaf++) {
            // 1 2 3 | 4 5 6 | 7 8: the first, the middle or the last leaf goes.
            Counted x = Builds.withSums(1, 2, 3, 4, 5, 6, 7, 8);
            isALeaf(x, 3 * leaf, Math.min(3 * leaf + 3, 8), 2);
            Check.due("used() without the leaf", x.used(), x.usedByTree());
            for (int i = 0; i < x.list(0) / 10; i++) {
                int due = 1 + i + (i < 3 * leaf ? 0 : Math.min(3, 8 - 3 * leaf));
                Check.due("subkeyAt(0, " + i + ")", x.subkeyAt(0, i), due);
            }
        }
    }

    /** Keys and lists: "if one leaf is left by that, the index is given back then" */
    private static void theIndexIsGivenBackIfOneLeafIsLeft() {
        for (int leaf = 0; leaf < 2; leaf++) {
            Counted x = Builds.withSums(1, 2, 3, 4, 5);
            isALeaf(x, 3 * leaf, leaf == 0 ? 3 : 5, 1);
            Check.due("used() with the other leaf alone", x.used(), 8 + (2 + leaf) * 6 + 5);
            x.make(0, Builds.nameOfSum(9));
            Check.due("an entry comes into the leaf that is left", x.list(0), 31 + 10 * leaf);
        }
        Counted y = Builds.withSums(1, 2, 3, 4, 5, 6, 7, 8);
        isALeaf(y, 0, 3, 2);
        Check.due("used() with two leaves left", y.used(), 8 + 5 * 6 + 2 * 5 + 9);
    }

    /** Keys and lists: "if that is empty then" */
    private static void aLeafWithAnEntryLeftStays() {
        // 1 2 3 | 4 5 becomes 3 | 5: leaves with few entries are not put together.
        Counted x = Builds.withSums(1, 2, 3, 4, 5);
        Check.due("delete(1)", x.delete(1), 6);
        Check.due("delete(2)", x.delete(2), 6);
        Check.due("delete(4)", x.delete(4), 6);
        Check.due("list(0)", x.list(0), 22);
        Check.due("used()", x.used(), 8 + 2 * 6 + 2 * 5 + 9);
    }

    /** Keys and lists: "Making a key needs the cell of the key, then what the list of its parent needs." */
    private static void makingNeedsTheKeyThenTheList() {
        Counted x = new Counted();
        x.setValue(0, 0, 4, 0);
        x.setValue(0, 1, 0, 0);
        x.resize(0, 0, 0);
        Check.sameCells("a hole of 6", "4:6 10:2 12:-6 18:3 21:5 26:3 29:-3", x);
        x.make(0, 0);
        Check.sameCells("the key takes it, the leaf does not", "4:6 10:2 12:6 18:3 21:5 26:3 29:5 34:-14", x);
        Check.due("place(1)", x.place(1), 12);
        Twins.state("make() with room for the leaf alone", () -> Builds.withRoom(5), y -> y.make(2, 9));
    }

    /**
     * Keys and lists: "Renaming it lets an entry with the new name come into that list first, and then
     *     the old one go."
     */
    private static void renamingLetsTheNewEntryInFirst() {
        // The leaf is full, so that the new entry needs a second leaf, though the old one goes.
        Counted x = Builds.withSums(1, 3, 5, 7);
        x.rename(4, Builds.nameOfSum(6));
        Check.due("1 3 5 | 6", x.list(0), 42);
        isALeaf(x, 0, 3, 1);
        Counted y = Builds.withSums(1, 3, 5, 7);
        y.rename(1, Builds.nameOfSum(0));
        Check.due("0 3 | 5 7", y.list(0), 42);
        isALeaf(y, 0, 2, 1);
        Counted z = Builds.withSums(1, 3, 5);
        z.rename(1, Builds.nameOfSum(9));
        Check.due("a leaf of 3 needs none", z.list(0), 31);
        Check.due("subkeyAt(0, 2)", z.subkeyAt(0, 2), 1);
    }

    /** Keys and lists: "and then the old one go" */
    private static void renamingMayEndTheLeafOfTheOldEntry() {
        // 1 3 5 | 7: the entry goes from the second leaf to the first, and the second one with the index.
        Counted x = Builds.withSums(1, 3, 5, 7, 9);
        x.delete(5);
        int before = x.used();
        x.rename(4, Builds.nameOfSum(2));
        Check.due("1 2 3 5", x.list(0), 41);
        Check.due("leaf and index are given back", before - x.used(), 5 + 9);
        // 1 2 3 5 | 7: the first leaf is split by the new entry, and then the leaf of the old one goes.
        Counted y = Builds.withSums(1, 3, 5, 7, 9, 2);
        y.delete(5);
        before = y.used();
        y.rename(4, Builds.nameOfSum(4));
        Check.due("1 2 3 | 4 5", y.list(0), 52);
        Check.due("a leaf is got, a leaf is given back", y.used(), before);
        isALeaf(y, 0, 3, 1);
        // The entry stays in its leaf, which it has alone.
        Counted z = Builds.withSums(1, 3, 5, 7, 9);
        z.delete(5);
        z.rename(4, Builds.nameOfSum(8));
        Check.due("1 3 5 | 8", z.list(0), 42);
    }

    /** Keys and lists: "Renaming it lets an entry with the new name come into that list first" */
    private static void renamingTheOnlySubkeyNeedsNoRoom() {
        Counted x = Builds.withRoom(0);
        int leaf = x.place(5) + 6;
        Check.due("the leaf of the key 1", x.cell(leaf), 5);
        Check.due("rename() in a full file", x.rename(5, 9999), 0);
        Check.due("the leaf stays", x.cell(leaf), 5);
        Check.due("list(1)", x.list(1), 11);
        Check.due("find(1, 9999)", x.find(1, 9999), 5);
        Check.due("find(1, 0)", x.find(1, 0), -1);
    }

    /**
     * Keys and lists: "come into that list first"
     * Keys and lists: "the list is full"
     */
    private static void renamingInAFullListNeedsALeafWithRoom() {
        Counted x = Builds.withFullList();
        for (int i = 0; i < 32; i++) {
            int key = 1 + i;
            Check.throwsState("rename() in the longest list", () -> x.rename(key, 9999));
        }
        // The sums of the last leaf are 42, 44, 46 and 48; now it has room for one.
        x.delete(x.find(0, Builds.nameOfSum(48)));
        Check.throwsState("rename() into a full leaf", () -> x.rename(24, Builds.nameOfSum(3)));
        Check.throwsState("rename() in a full leaf", () -> x.rename(1, Builds.nameOfSum(3)));
        Check.due("rename() from a full leaf to the last one", x.rename(1, Builds.nameOfSum(63)), 0);
        Check.due("list(0)", x.list(0), 318);
        Check.due("rename() into the leaf from which it came", x.rename(24, Builds.nameOfSum(3)), Builds.nameOfSum(46));
        Check.due("list(0) with all leaves still", x.list(0), 318);
    }

    /**
     * Keys and lists: "Deleting it gives back, in this order, the cells of its values, value by value
     *     in the order in which they were made (the pieces, then its cell; one that is set anew keeps
     *     its place), the cell of its value list, the cell of the key, the cell of its rights, if no
     *     key has these any more, and what the list of its parent gives back."
     * Promise 5: "Returns how many units are given back."
     */
    private static void deletingGivesBackTheLeastAndTheMost() {
        Counted x = Builds.withSums(1, 2);
        Check.due("delete() of a key, and no more", x.delete(2), 6);
        Counted y = Builds.withSums(1, 2, 3, 4);
        for (int name = 0; name < 8; name++) {
            y.setValue(4, name, 30, 0);
        }
        y.setRights(4, 255);
        y.make(0, Builds.nameOfSum(0));
        y.delete(3);
        // 0 1 2 | 4 with eight values of 4 pieces, the long list, rights of its own, leaf and index.
        Check.due("list(0)", y.list(0), 42);
        Check.due("delete() of all that a key can have", y.delete(4), 8 * (38 + 3) + 9 + 6 + 2 + 5 + 9);
        Check.due("used() then", y.used(), 8 + 3 * 6 + 5);
        Counted z = Builds.withSums(1, 2);
        z.setRights(1, 7);
        z.setRights(2, 7);
        Check.due("delete() of one of two with the same rights", z.delete(1), 6);
        Check.due("delete() of the last one with them, and of the leaf", z.delete(2), 6 + 2 + 5);
    }

    // ---- promises 1, 2 and 4 to 8

    /** Promise 1: "Creates a registry with the root alone." */
    private static void aNewObjectHasTheRootAlone() {
        Counted x = new Counted();
        Check.due("list(0)", x.list(0), 0);
        Check.throwsIndex("list(1)", () -> x.list(1));
        Check.throwsIndex("unit(0, 0, 0)", () -> x.unit(0, 0, 0));
        Check.sameFile("a new file", "4:6 10:2 12:-4 /1/0", x);
        Check.due("make() of the first key", x.make(0, 0), 1);
    }

    /**
     * Promise 2: "`key`: the key whose subkey it is"
     * Promise 2: "Throws `IndexOutOfBoundsException` if there is no such key"
     */
    private static void makeTakesKeysThatExist() {
        Twins.noSuchKey("make()", (x, key) -> x.make(key, 0));
        Counted x = Builds.chain(78);
        Check.due("make() below the last key", x.make(78, 0), 79);
        Check.due("find() below it", x.find(78, 0), 79);
        Check.due("find() below the root", x.find(0, 0), 1);
    }

    /**
     * Promise 2: "`name`: 0 to 9999"
     * Promise 2: "Throws `IllegalArgumentException` if name is out of range"
     * Promise 2: "Makes a key."
     * Promise 2: "Returns number of the subkey."
     */
    private static void makeTakesNamesInRange() {
        Twins.outOfRange("make()", 0, 9999, (x, name) -> x.make(0, name));
        Counted x = new Counted();
        Check.due("make() with the least name", x.make(0, 0), 1);
        Check.due("make() with the greatest name", x.make(0, 9999), 2);
        Check.due("find(0, 0)", x.find(0, 0), 1);
        Check.due("find(0, 9999)", x.find(0, 9999), 2);
    }

    /** Promise 2: "Throws `IllegalStateException` if the key is a link" */
    private static void makeIsRefusedBelowALink() {
        Twins.state("make() below a link", Builds::rich, x -> x.make(3, 0));
        Counted x = Builds.links(1);
        Check.throwsState("make() below a link", () -> x.make(2, 0));
        x.delete(1);
        Check.throwsState("make() below a link that leads nowhere", () -> x.make(2, 0));
    }

    /** Promise 2: "it has a subkey with this name" */
    private static void makeIsRefusedForANameThatIsThere() {
        Twins.state("make() of a name that is there", Builds::rich, x -> x.make(0, 1));
        Twins.state("make() of the name of a link", Builds::rich, x -> x.make(0, 3));
        Twins.state("make() of the first name of a list", Builds::withFullList, x -> x.make(0, 0));
        Twins.state("make() of the last name of a list", Builds::withFullList, x -> x.make(0, Builds.nameOfSum(48)));
        Check.due("make() of the name of one that was deleted", Builds.rich().make(0, 2), 5);
        Check.due("make() of the name of a subkey of another", Builds.rich().make(0, 4), 5);
    }

    /** Promise 2: "its list is full" */
    private static void makeIsRefusedForAFullList() {
        Twins.state("make() in a full leaf of eight", Builds::withEightLeaves, x -> x.make(0, Builds.nameOfSum(63)));
        Twins.state("make() in the longest list", Builds::withFullList, x -> x.make(0, 9999));
        Check.due("make() in a leaf of three of eight", Builds.withEightLeaves().make(0, Builds.nameOfSum(41)), 26);
        Check.due("make() in another list", Builds.withFullList().make(1, 9999), 33);
    }

    /** Promise 2: "80 keys were made (the root included)" */
    private static void makeIsRefusedBehindEightyKeys() {
        Check.due("make() of the 80th", Builds.chain(78).make(0, 1), 79);
        Twins.state("make() of one more", () -> Builds.chain(79), x -> x.make(0, 1));
        Twins.state("make() when some were deleted", () -> {
            Counted x = Builds.chain(79);
            x.delete(79);
            x.delete(78);
            return x;
        }, x -> x.make(0, 1));
    }

    /** Promise 2: "or there is no room" */
    private static void makeIsRefusedWithoutRoom() {
        for (int room = 0; room < 6; room++) {
            int units = room;
            Twins.state("make() with room for " + room, () -> Builds.withRoom(units), x -> x.make(1, 9));
        }
        Check.due("make() with room for a key", Builds.withRoom(6).make(1, 9), 7);
        Check.due("make() with room for a key and a leaf", Builds.withRoom(11).make(2, 9), 7);
        Check.due("make() with room for an index, too", Builds.withRoom(20).make(0, 9), 7);
    }

    /**
     * Promise 4: "`key`: a key"
     * Promise 4: "Throws `IndexOutOfBoundsException` if there is no such key"
     */
    private static void renameTakesKeysThatExist() {
        Twins.noSuchKey("rename()", (x, key) -> x.rename(key, 77));
        Counted x = Builds.chain(79);
        Check.due("rename() of the first subkey", x.rename(1, 77), 0);
        Check.due("rename() of the last key", x.rename(79, 77), 0);
        Check.due("find(78, 77)", x.find(78, 77), 79);
    }

    /**
     * Promise 4: "Gives a key another name."
     * Promise 4: "Returns the name before."
     * Promise 4: "`name`: 0 to 9999"
     * Promise 4: "Throws `IllegalArgumentException` if name is out of range"
     */
    private static void renameTakesNamesInRange() {
        Twins.outOfRange("rename()", 0, 9999, (x, name) -> x.rename(1, name));
        Counted x = new Counted();
        x.make(0, 5000);
        Check.due("rename() to the least name", x.rename(1, 0), 5000);
        Check.due("rename() to the greatest name", x.rename(1, 9999), 0);
        Check.due("rename() from it", x.rename(1, 1), 9999);
        Check.due("find(0, 1)", x.find(0, 1), 1);
        Check.due("find(0, 9999)", x.find(0, 9999), -1);
    }

    /** Promise 4: "Throws `IllegalStateException` if it is the root" */
    private static void renameIsRefusedForTheRoot() {
        Twins.state("rename(0, 77)", Builds::rich, x -> x.rename(0, 77));
        Twins.state("rename(0, 0), its name", Builds::rich, x -> x.rename(0, 0));
        Twins.state("rename(0, 1), without subkeys", Counted::new, x -> x.rename(0, 1));
    }

    /** Promise 4: "its parent has a subkey with this name" */
    private static void renameIsRefusedForANameThatIsThere() {
        Twins.state("rename() to the name of a link", Builds::rich, x -> x.rename(1, 3));
        Twins.state("rename() of a link to a name that is there", Builds::rich, x -> x.rename(3, 1));
        Twins.state("rename() to the name that it has", Builds::rich, x -> x.rename(1, 1));
        Check.due("rename() to the name of its subkey", Builds.rich().rename(1, 4), 1);
        Check.due("rename() to the name of its parent", Builds.rich().rename(4, 1), 4);
        Check.due("rename() to the name of one that was deleted", Builds.rich().rename(1, 2), 1);
    }

    /** Promise 4: "the list of that is full" */
    private static void renameIsRefusedForAFullList() {
        Twins.state("rename() for a ninth leaf", Builds::withEightLeaves, x -> x.rename(1, Builds.nameOfSum(63)));
        Twins.state("rename() in the leaf of eight that is full", Builds::withEightLeaves,
                x -> x.rename(25, Builds.nameOfSum(63)));
        Twins.state("rename() that would end a leaf", withALeafOfOne(), x -> x.rename(3, Builds.nameOfSum(63)));
        Check.due("rename() into a leaf of three", Builds.withEightLeaves().rename(25, Builds.nameOfSum(1)),
                Builds.nameOfSum(48));
    }

    /** Eight leaves, of which the first one has the key 3 alone, and the last one is full. */
    private static Supplier<Counted> withALeafOfOne() {
        return () -> {
            Counted x = Builds.withEightLeaves();
            x.delete(1);
            x.delete(2);
            Check.due("list(0)", x.list(0), 238);
            return x;
        };
    }

    /** Promise 4: "or there is no room" */
    private static void renameIsRefusedWithoutRoom() {
        for (int room = 0; room < 14; room++) {
            int units = room;
            Twins.state("rename() with room for " + room, () -> Builds.withRoom(units), x -> x.rename(1, 9));
        }
        Check.due("rename() with room for index and leaf", Builds.withRoom(14).rename(1, 9), 1);
        Check.due("rename() in a leaf with room", Builds.withRoom(0).rename(6, 9), 0);
    }

    /**
     * Promise 5: "`key`: a key"
     * Promise 5: "Throws `IndexOutOfBoundsException` if there is no such key"
     */
    private static void deleteTakesKeysThatExist() {
        Twins.noSuchKey("delete()", Counted::delete);
        Counted x = Builds.chain(79);
        Check.due("delete() of the last key", x.delete(79), 11);
        Check.throwsIndex("delete() of it again", () -> x.delete(79));
        Check.due("delete() of the one above", x.delete(78), 11);
    }

    /** Promise 5: "Throws `IllegalStateException` if it is the root" */
    private static void deleteIsRefusedForTheRoot() {
        Twins.state("delete(0) with subkeys", Builds::rich, x -> x.delete(0));
        Twins.state("delete(0) without subkeys", Counted::new, x -> x.delete(0));
    }

    /** Promise 5: "or has subkeys" */
    private static void deleteIsRefusedForAKeyWithSubkeys() {
        Twins.state("delete() of a key with a subkey", Builds::rich, x -> x.delete(1));
        Counted x = new Counted();
        x.make(0, 0);
        x.makeLink(1, 0, 0);
        Check.throwsState("delete() of a key with a link", () -> x.delete(1));
        x.delete(2);
        Check.due("delete() without it", x.delete(1), 11);
        Counted y = Builds.withFullList();
        y.make(1, 1);
        Check.throwsState("delete() of one in a full list", () -> y.delete(1));
        Check.due("delete() of another one", y.delete(2), 6);
    }

    /**
     * Promise 6: "`key`: a key"
     * Promise 6: "Throws `IndexOutOfBoundsException` if there is no such key"
     */
    private static void findTakesKeysThatExist() {
        Twins.noSuchKey("find()", (x, key) -> x.find(key, 0));
        Counted x = Builds.chain(79);
        Check.due("find() below the root", x.find(0, 0), 1);
        Check.due("find() below the last but one", x.find(78, 0), 79);
        Check.due("find() below the last key", x.find(79, 0), -1);
    }

    /**
     * Promise 6: "`name`: 0 to 9999"
     * Promise 6: "Throws `IllegalArgumentException` if name is out of range"
     */
    private static void findTakesNamesInRange() {
        Twins.outOfRange("find()", 0, 9999, (x, name) -> x.find(0, name));
        Twins.outOfRange("find() below a link", 0, 9999, (x, name) -> x.find(3, name));
        Counted x = new Counted();
        Check.due("find() of the least name, which is not there", x.find(0, 0), -1);
        Check.due("find() of the greatest name, which is not there", x.find(0, 9999), -1);
    }

    /**
     * Promise 6: "Returns a subkey by its name."
     * Promise 6: "Returns the subkey, -1 if there is none."
     */
    private static void findAnswersNothingBesideTheNames() {
        Counted x = Builds.withFullList();
        for (int sum = 0; sum < 49; sum++) {
            // All even sums up to 48 are there, and one odd sum for each of the first seven leaves.
            int due = sum % 2 == 0 ? 1 + sum / 2 : sum % 6 == 1 && sum < 42 ? 26 + sum / 6 : -1;
            Check.due("find() of the sum " + sum, x.find(0, Builds.nameOfSum(sum)), due);
            Check.due("find() of another name of this sum", x.find(0, Builds.nameOfSum(sum) + 64), -1);
        }
        Check.due("find() below a key without subkeys", x.find(1, 0), -1);
    }

    /**
     * Promise 7: "`key`: a key"
     * Promise 7: "Throws `IndexOutOfBoundsException` if there is no such key or subkey"
     */
    private static void subkeyAtTakesKeysThatExist() {
        Twins.noSuchKey("subkeyAt()", (x, key) -> x.subkeyAt(key, 0));
        Counted x = Builds.chain(79);
        Check.due("subkeyAt(78, 0)", x.subkeyAt(78, 0), 79);
        Check.throwsIndex("subkeyAt(79, 0)", () -> x.subkeyAt(79, 0));
    }

    /**
     * Promise 7: "`index`: 0 for the first subkey"
     * Promise 7: "Returns a subkey by its place in the list."
     * Promise 7: "Returns the subkey."
     * Promise 7: "if there is no such key or subkey"
     */
    private static void subkeyAtTakesPlacesInTheList() {
        for (int index : new int[] {Integer.MIN_VALUE, -1, 2, 3, Integer.MAX_VALUE}) {
            Twins.index("subkeyAt(0, " + index + ") of two", Builds::rich, x -> x.subkeyAt(0, index));
        }
        Twins.index("subkeyAt() of a link", Builds::rich, x -> x.subkeyAt(3, 0));
        Counted x = Builds.withFullList();
        Check.due("the first of 32", x.subkeyAt(0, 0), 1);
        Check.due("the last of the first leaf", x.subkeyAt(0, 3), 3);
        Check.due("the first of the second leaf", x.subkeyAt(0, 4), 4);
        Check.due("the last of 32", x.subkeyAt(0, 31), 25);
        Check.throwsIndex("subkeyAt(0, 32)", () -> x.subkeyAt(0, 32));
        Check.throwsIndex("subkeyAt(0, -1)", () -> x.subkeyAt(0, -1));
        x.delete(25);
        Check.throwsIndex("subkeyAt(0, 31) of 31", () -> x.subkeyAt(0, 31));
        Check.throwsIndex("subkeyAt(0, 0) of none", () -> new Counted().subkeyAt(0, 0));
    }

    /**
     * Promise 8: "`key`: a key"
     * Promise 8: "Throws `IndexOutOfBoundsException` if there is no such key"
     */
    private static void listTakesKeysThatExist() {
        Twins.noSuchKey("list()", Counted::list);
        Counted x = Builds.chain(79);
        Check.due("list(0)", x.list(0), 11);
        Check.due("list(79)", x.list(79), 0);
    }

    /**
     * Promise 8: "Returns how many subkeys a key has, and in how many leaves."
     * Promise 8: "Returns 10 * subkeys + leaves."
     */
    private static void listAnswersFromNoneToTheMost() {
        Check.due("list() of none", new Counted().list(0), 0);
        Check.due("list() of 1", Builds.withSums(1).list(0), 11);
        Check.due("list() of 4", Builds.withSums(1, 2, 3, 4).list(0), 41);
        Check.due("list() of 5", Builds.withSums(1, 2, 3, 4, 5).list(0), 52);
        Check.due("list() of 25 in 8 leaves", Builds.withEightLeaves().list(0), 258);
        Check.due("list() of 32 in 8 leaves", Builds.withFullList().list(0), 328);
        Check.due("list() of a link", Builds.links(1).list(2), 0);
    }
}
