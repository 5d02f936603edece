/**
 * The edges of what a unit's being written is, and of the promise 23: dirty. The cells that a test is
 * about lie in sectors of their own, so that a sector too few or too many is seen.
 */
public final class DirtyEdgesTest {
    // Cells of apart() and valuesApart(): the unit at which each begins, and its size.
    private static final int[] ROOT = {4, 6};
    private static final int[] RIGHTS_0 = {10, 2};
    private static final int[] KEY_1 = {58, 6};
    private static final int[] ROOTS_LEAF = {64, 5};
    private static final int[] RIGHTS_7 = {110, 2};
    private static final int[] HOLE_OF_5 = {153, 5};
    private static final int[] KEY_2 = {161, 6};
    private static final int[] HOLE_OF_6 = {213, 6};
    private static final int[] HOLE_OF_9 = {263, 9};
    private static final int[] KEY_4 = {327, 6};
    private static final int[] LEAF = {333, 5};
    private static final int[] KEY_5 = {379, 6};
    private static final int[] KEY_7 = {391, 6};
    private static final int[] END = {438, 6};
    private static final int[] KEY_OF_VALUES = {65, 6};
    private static final int[] VALUE_LIST = {117, 5};
    private static final int[] FIRST_PIECE = {122, 10};
    private static final int[] PIECES_BETWEEN = {132, 20};
    private static final int[] LAST_PIECE = {152, 8};
    private static final int[] VALUE_1 = {160, 3};
    private static final int[] VALUE_2 = {163, 3};
    private static final int[] NEW_VALUE = {166, 3};

    public static void main(String[] args) {
        aCellThatIsGotIsWritten();
        aCellThatIsGivenBackIsWritten();
        ofAFreeCellThatIsLeftNothingIsWritten();
        aKeyIsWrittenWhenItsNameBecomesAnother();
        aKeyIsWrittenWhenItComesToHaveAList();
        aKeyIsWrittenWhenWhatIsInItsListChanges();
        aKeyIsWrittenWhenItsRightsBecomeOthers();
        aKeyIsWrittenWhenItsValuesBecomeOthers();
        aLeafIsWrittenWhenAnEntryComesOrGoes();
        anIndexIsWrittenWhenALeafComesOrGoes();
        aValueIsWrittenWhenItIsSet();
        aValueIsWrittenWhenItIsResized();
        aValueListIsWrittenWhenAValueComesOrGoes();
        aRightsCellIsWrittenWhenItsCountChanges();
        aKeyIsWrittenIfAValueIsSetAsItIs();
        atFirstNoSectorIsDirty();
        dirtySectorsAreThoseSinceAFlushBegan();
        whatChangesNothingWritesNothing();
        dirtyAnswersTheFirstAndTheLastSector();
        dirtyAnswersAllSectors();
        Check.end("DirtyEdgesTest");
    }

    /**
     * A registry that was flushed. Below the root are the keys 1, 2 and 3; the key 1 has the rights 7
     * and, in one leaf, the keys 4 to 7, of the sums 10, 20, 30 and 40. Three holes are there, for one
     * leaf, one key, and one index; values of the other keys lie between all these.
     */
    private static Counted apart() {
        Counted x = new Counted();
        x.setValue(0, 0, 30, 0);
        x.make(0, 1);
        x.setValue(0, 1, 30, 0);
        x.setRights(1, 7);
        x.setValue(0, 2, 30, 0);
        x.setValue(0, 3, 3, 0);
        x.make(0, 2);
        x.setValue(2, 0, 30, 0);
        x.setValue(2, 1, 4, 0);
        x.setValue(2, 2, 30, 0);
        x.setValue(2, 3, 7, 0);
        x.make(0, 3);
        x.setValue(3, 0, 30, 0);
        x.make(1, Builds.nameOfSum(10));
        x.setValue(3, 1, 30, 0);
        for (int sum = 20; sum <= 40; sum += 10) {
            x.make(1, Builds.nameOfSum(sum));
        }
        x.setValue(3, 2, 30, 0);
        x.resize(0, 3, 0);
        x.resize(2, 1, 0);
        x.resize(2, 3, 0);
        Check.flushWhole(x);
        return x;
    }

    /** A registry that was flushed: the key 1 has the values 0 and 1, of the length 30, and 2, of 1. */
    private static Counted valuesApart() {
        Counted x = new Counted();
        x.setValue(0, 0, 30, 0);
        x.setValue(0, 1, 2, 0);
        x.make(0, 1);
        x.setValue(1, 0, 30, 0);
        x.setValue(1, 1, 30, 0);
        x.setValue(1, 2, 1, 0);
        Check.flushWhole(x);
        return x;
    }

    private static long sectorsOf(int[]... cells) {
        long sectors = 0;
        for (int[] cell : cells) {
            for (int unit = cell[0]; unit < cell[0] + cell[1]; unit++) {
                sectors |= 1L << (unit / 16);
            }
        }
        return sectors;
    }

    /** The dirty sectors are those of all these cells; that of the first one is not among the others'. */
    private static void dirtyAre(String when, Counted x, int[] tested, int[]... others) {
        Check.due("the cell lies in a sector of its own " + when, (sectorsOf(tested) & ~sectorsOf(others)) != 0, true);
        Check.due("dirty() " + when, x.dirty(), sectorsOf(tested) | sectorsOf(others));
        Check.flushWhole(x);
    }

    /** Flushes and crashes: "A unit is written if its cell is got" */
    private static void aCellThatIsGotIsWritten() {
        Counted x = apart();
        x.setRights(2, 9);
        dirtyAre("behind a getting of 2 units", x, new int[] {153, 2}, KEY_2, RIGHTS_0);
        Counted y = apart();
        y.make(5, 0);
        dirtyAre("behind make(), of the key", y, HOLE_OF_6, HOLE_OF_5, KEY_5, RIGHTS_7);
        Counted z = apart();
        z.make(5, 0);
        dirtyAre("behind make(), of the leaf", z, HOLE_OF_5, HOLE_OF_6, KEY_5, RIGHTS_7);
    }

    /** Flushes and crashes: "or given back" */
    private static void aCellThatIsGivenBackIsWritten() {
        Counted x = apart();
        x.make(5, 0);
        Check.flushWhole(x);
        x.delete(8);
        dirtyAre("behind delete(), of the key", x, HOLE_OF_6, HOLE_OF_5, KEY_5, RIGHTS_7);
        x.make(5, 0);
        Check.flushWhole(x);
        x.delete(9);
        dirtyAre("behind delete(), of the leaf", x, HOLE_OF_5, HOLE_OF_6, KEY_5, RIGHTS_7);
        Counted y = valuesApart();
        y.resize(1, 1, 24);
        dirtyAre("behind resize(), of the last piece alone", y, LAST_PIECE, VALUE_1, KEY_OF_VALUES);
        y.resize(1, 1, 0);
        dirtyAre("behind resize(), of the first piece", y, FIRST_PIECE, PIECES_BETWEEN, VALUE_1, KEY_OF_VALUES);
    }

    /** Flushes and crashes: "A unit is written if its cell is got or given back" */
    private static void ofAFreeCellThatIsLeftNothingIsWritten() {
        Counted x = valuesApart();
        x.resize(1, 1, 0);
        Check.flushWhole(x);
        Check.due("the free cell", x.cell(122), -38);
        x.setRights(1, 3);
        dirtyAre("behind a getting of 2 of 38 units", x, new int[] {122, 2}, KEY_OF_VALUES, RIGHTS_0);
        x.setRights(1, 0);
        dirtyAre("behind a giving back that joins these", x, new int[] {122, 2}, KEY_OF_VALUES, RIGHTS_0);
        x.setValue(1, 2, 4, 0);
        Check.due("the rest, which begins a sector", x.cell(128), -32);
        dirtyAre("behind a getting of 6 units that end a sector", x, new int[] {122, 6}, VALUE_2, KEY_OF_VALUES);
    }

    /** Flushes and crashes: "the units of the cell of a key when its name" */
    private static void aKeyIsWrittenWhenItsNameBecomesAnother() {
        Counted x = apart();
        x.rename(5, Builds.nameOfSum(21));
        Check.due("list(1)", x.list(1), 42);
        dirtyAre("behind rename()", x, KEY_5, KEY_1, LEAF, HOLE_OF_5, HOLE_OF_9);
        x.rename(5, Builds.nameOfSum(22));
        dirtyAre("behind rename() in a leaf with room", x, KEY_5, KEY_1, LEAF);
    }

    /** Flushes and crashes: "its list (whether it has one" */
    private static void aKeyIsWrittenWhenItComesToHaveAList() {
        Counted x = apart();
        x.make(5, 0);
        dirtyAre("behind make() of a first subkey", x, KEY_5, HOLE_OF_5, HOLE_OF_6, RIGHTS_7);
        x.delete(8);
        dirtyAre("behind delete() of the last subkey", x, KEY_5, HOLE_OF_5, HOLE_OF_6, RIGHTS_7);
    }

    /** Flushes and crashes: "and what is in it)" */
    private static void aKeyIsWrittenWhenWhatIsInItsListChanges() {
        Counted x = apart();
        x.delete(7);
        dirtyAre("behind delete() of one of four", x, KEY_1, KEY_7, LEAF, RIGHTS_7);
        x.make(1, Builds.nameOfSum(5));
        dirtyAre("behind make() of one of four", x, KEY_1, HOLE_OF_6, LEAF, RIGHTS_7);
        x.rename(8, Builds.nameOfSum(6));
        dirtyAre("behind rename() that needs a leaf", x, KEY_1, HOLE_OF_6, LEAF, HOLE_OF_5, HOLE_OF_9);
        x.rename(8, Builds.nameOfSum(7));
        dirtyAre("behind rename() to the same place in the list", x, KEY_1, HOLE_OF_6, LEAF);
        x.makeLink(0, 99, 1);
        dirtyAre("behind makeLink(), of the leaf of the root", x, ROOTS_LEAF, ROOT, KEY_7, RIGHTS_0);
    }

    /** Flushes and crashes: "or its rights become others" */
    private static void aKeyIsWrittenWhenItsRightsBecomeOthers() {
        Counted x = apart();
        x.setRights(5, 0);
        dirtyAre("behind setRights()", x, KEY_5, RIGHTS_7, RIGHTS_0);
        x.setRights(5, 0);
        Check.due("dirty() behind setRights() to the same", x.dirty(), 0);
    }

    /** Flushes and crashes: "its values" */
    private static void aKeyIsWrittenWhenItsValuesBecomeOthers() {
        Counted x = valuesApart();
        x.setValue(1, 3, 0, 0);
        dirtyAre("behind setValue() of a new value", x, KEY_OF_VALUES, NEW_VALUE, VALUE_LIST);
        x.setValue(1, 3, 1, 1);
        dirtyAre("behind setValue() of a value that is there", x, KEY_OF_VALUES, NEW_VALUE);
        x.resize(1, 3, 0);
        dirtyAre("behind resize()", x, KEY_OF_VALUES, NEW_VALUE);
        x.dropValue(1, 3);
        dirtyAre("behind dropValue()", x, KEY_OF_VALUES, NEW_VALUE, VALUE_LIST);
    }

    /** Flushes and crashes: "those of a leaf when an entry comes into it or goes out" */
    private static void aLeafIsWrittenWhenAnEntryComesOrGoes() {
        Counted x = apart();
        x.delete(7);
        dirtyAre("behind delete()", x, LEAF, KEY_7, KEY_1, RIGHTS_7);
        x.make(1, Builds.nameOfSum(50));
        dirtyAre("behind make()", x, LEAF, HOLE_OF_6, KEY_1, RIGHTS_7);
        // 10 20 30 | 40 50: the 40 goes out of the leaf, and the new one does not come into it.
        Counted y = apart();
        y.make(1, Builds.nameOfSum(50));
        dirtyAre("behind make() of a second leaf", y, LEAF, HOLE_OF_6, KEY_1, RIGHTS_7, HOLE_OF_5, HOLE_OF_9);
        y.make(1, Builds.nameOfSum(55));
        dirtyAre("behind make() in the second leaf", y, HOLE_OF_5, END, KEY_1, RIGHTS_7);
        y.rename(4, Builds.nameOfSum(56));
        dirtyAre("behind rename(), of the leaf that an entry leaves", y, LEAF, HOLE_OF_5, KEY_1, KEY_4);
        y.rename(4, Builds.nameOfSum(9));
        dirtyAre("behind rename() back, of the leaf that it leaves", y, HOLE_OF_5, LEAF, KEY_1, KEY_4);
    }

    /** Flushes and crashes: "those of an index when a leaf comes or goes" */
    private static void anIndexIsWrittenWhenALeafComesOrGoes() {
        Counted x = apart();
        x.make(1, Builds.nameOfSum(50));
        dirtyAre("behind make() of a second leaf", x, HOLE_OF_9, HOLE_OF_6, HOLE_OF_5, LEAF, KEY_1, RIGHTS_7);
        x.make(1, Builds.nameOfSum(25));
        dirtyAre("behind make() in a leaf with room, not of the index", x, END, LEAF, KEY_1, RIGHTS_7);
        x.make(1, Builds.nameOfSum(26));
        // 10 20 25 | 26 30 | 40 50: the key 10 and the new leaf lie behind the key 9.
        dirtyAre("behind make() of a third leaf", x, HOLE_OF_9, new int[] {444, 11}, LEAF, KEY_1, RIGHTS_7);
        x.delete(10);
        dirtyAre("behind delete() in a leaf that stays, not of the index", x, new int[] {444, 11}, KEY_1, RIGHTS_7);
        x.rename(6, Builds.nameOfSum(24));
        dirtyAre("behind rename() that ends a leaf", x, HOLE_OF_9, new int[] {385, 6}, new int[] {450, 5}, LEAF, KEY_1);
        x.delete(8);
        dirtyAre("behind delete() in the other leaf", x, HOLE_OF_5, HOLE_OF_6, KEY_1, RIGHTS_7);
        x.delete(7);
        dirtyAre("behind delete() that leaves one leaf", x, HOLE_OF_9, KEY_7, HOLE_OF_5, KEY_1, RIGHTS_7);
    }

    /** Flushes and crashes: "those of the cell of a value when it is set" */
    private static void aValueIsWrittenWhenItIsSet() {
        Counted x = valuesApart();
        x.setValue(1, 2, 1, 9);
        dirtyAre("behind setValue() with another seed", x, VALUE_2, KEY_OF_VALUES);
        x.setValue(1, 2, 1, 9);
        dirtyAre("behind setValue() with the same", x, VALUE_2, KEY_OF_VALUES);
        x.setValue(1, 2, 0, 9);
        dirtyAre("behind setValue() with another length", x, VALUE_2, KEY_OF_VALUES);
        x.setValue(1, 1, 1, 9);
        dirtyAre("behind setValue() without the pieces that it had",
                x, VALUE_1, FIRST_PIECE, PIECES_BETWEEN, LAST_PIECE, KEY_OF_VALUES);
    }

    /** Flushes and crashes: "or resized" */
    private static void aValueIsWrittenWhenItIsResized() {
        Counted x = valuesApart();
        x.resize(1, 1, 30);
        dirtyAre("behind resize() to the same length, of no piece", x, VALUE_1, KEY_OF_VALUES);
        x.resize(1, 2, 0);
        dirtyAre("behind resize() of a value without pieces", x, VALUE_2, KEY_OF_VALUES);
        x.resize(1, 1, 24);
        dirtyAre("behind resize() to less pieces", x, VALUE_1, LAST_PIECE, KEY_OF_VALUES);
    }

    /** Flushes and crashes: "those of the cell of a value list when a value comes or goes" */
    private static void aValueListIsWrittenWhenAValueComesOrGoes() {
        Counted x = valuesApart();
        x.setValue(1, 3, 0, 0);
        dirtyAre("behind setValue() of a new value", x, VALUE_LIST, NEW_VALUE, KEY_OF_VALUES);
        x.setValue(1, 3, 0, 5);
        dirtyAre("behind setValue() of that, not of the list", x, NEW_VALUE, KEY_OF_VALUES);
        x.setValue(1, 4, 0, 0);
        int[] fifth = {169, 3};
        int[] longer = {172, 9};
        dirtyAre("behind setValue() of a fifth, of the longer list", x, longer, fifth, VALUE_LIST, KEY_OF_VALUES);
        x.dropValue(1, 4);
        dirtyAre("behind dropValue() of it, of the longer list", x, longer, fifth, KEY_OF_VALUES);
        Counted y = valuesApart();
        y.dropValue(1, 2);
        dirtyAre("behind dropValue()", y, VALUE_LIST, VALUE_2, KEY_OF_VALUES);
        y.dropValue(1, 1);
        y.resize(1, 0, 0);
        Check.flushWhole(y);
        y.dropValue(1, 0);
        dirtyAre("behind dropValue() of the last one", y, new int[] {114, 8}, KEY_OF_VALUES);
    }

    /** Flushes and crashes: "those of a rights cell when its count changes" */
    private static void aRightsCellIsWrittenWhenItsCountChanges() {
        Counted x = apart();
        x.make(5, 0);
        dirtyAre("behind make()", x, RIGHTS_7, KEY_5, HOLE_OF_5, HOLE_OF_6);
        x.delete(8);
        dirtyAre("behind delete()", x, RIGHTS_7, KEY_5, HOLE_OF_5, HOLE_OF_6);
        x.setRights(5, 0);
        dirtyAre("behind setRights(), of the former ones", x, RIGHTS_7, KEY_5, RIGHTS_0);
        x.setRights(5, 7);
        dirtyAre("behind setRights(), of the new ones", x, RIGHTS_7, KEY_5, RIGHTS_0);
        x.setRights(5, 0);
        dirtyAre("behind setRights(), of the rights 0", x, RIGHTS_0, KEY_5, RIGHTS_7);
        x.rename(4, Builds.nameOfSum(11));
        x.rename(4, Builds.nameOfSum(12));
        Check.due("rename() is none", x.dirty() & sectorsOf(RIGHTS_7), 0);
    }

    /** Flushes and crashes: "(If a value is set or resized, the cell of the key is written, too.)" */
    private static void aKeyIsWrittenIfAValueIsSetAsItIs() {
        Counted x = valuesApart();
        x.setValue(1, 2, 1, 0);
        dirtyAre("behind setValue() of a value as it is", x, KEY_OF_VALUES, VALUE_2);
        x.resize(1, 2, 1);
        dirtyAre("behind resize() of a value to the same length", x, KEY_OF_VALUES, VALUE_2);
        x.resize(1, 0, 30);
        dirtyAre("behind resize() of one with pieces to the same", x, KEY_OF_VALUES, new int[] {114, 3});
    }

    /** Flushes and crashes: "at first none is" */
    private static void atFirstNoSectorIsDirty() {
        Counted x = new Counted();
        Check.due("dirty() of a new registry", x.dirty(), 0);
        Check.throwsState("flush() of a new registry", x::flush);
        x.crash();
        Check.due("dirty() of a new registry behind a crash", x.dirty(), 0);
    }

    /**
     * Flushes and crashes: "The sectors that are dirty are those in which some unit was written since a
     *     flush began last"
     */
    private static void dirtySectorsAreThoseSinceAFlushBegan() {
        Counted x = apart();
        Check.due("dirty() behind a flush", x.dirty(), 0);
        x.resize(3, 0, 30);
        long before = x.dirty();
        x.setRights(5, 0);
        long both = before | sectorsOf(KEY_5, RIGHTS_7, RIGHTS_0);
        Check.due("dirty() of two calls", x.dirty(), both);
        Check.due("dirty() again", x.dirty(), both);
        x.flush();
        Check.due("dirty() when a flush has begun", x.dirty(), 0);
        x.setRights(5, 7);
        long later = sectorsOf(KEY_5, RIGHTS_7, RIGHTS_0);
        Check.due("dirty() while a flush is running", x.dirty(), later);
        x.write(1);
        Check.due("dirty() behind a write", x.dirty(), later);
        x.write(200);
        Check.due("dirty() behind the last write", x.dirty(), later);
        x.flush();
        Check.due("dirty() when another flush has begun", x.dirty(), 0);
    }

    /** Flushes and crashes: "in which some unit was written" */
    private static void whatChangesNothingWritesNothing() {
        Counted x = apart();
        x.find(1, 0);
        x.subkeyAt(1, 0);
        x.list(1);
        x.follow(1);
        x.unit(0, 0, 0);
        x.sharers(7);
        x.sectors();
        x.cell(4);
        x.place(1);
        x.used();
        x.usedByTree();
        x.watch(1, 7, true);
        x.takeNotice();
        x.log(0);
        x.setRights(1, 7);
        Check.throwsState("make() of a name that is there", () -> x.make(0, 1));
        Check.throwsState("rename() to its name", () -> x.rename(1, 1));
        Check.throwsState("delete() of a key with subkeys", () -> x.delete(1));
        Check.due("dirty() behind these", x.dirty(), 0);
    }

    /**
     * Promise 23: "Returns the sectors that are dirty."
     * Promise 23: "Returns the sectors, as a set: bit s for sector s."
     */
    private static void dirtyAnswersTheFirstAndTheLastSector() {
        Counted x = new Counted();
        x.setRights(0, 1);
        Check.due("dirty() of the sector 0", x.dirty(), 1);
        Counted y = Builds.withRoom(2);
        Check.flushWhole(y);
        int sector = y.place(6) / 16;
        Check.due("the key lies in one sector", (y.place(6) + 5) / 16, sector);
        y.setRights(6, 9);
        Check.due("dirty() of the sector 63, with that of the key and 0", y.dirty(), Long.MIN_VALUE | 1L << sector | 1);
        Check.flushWhole(y);
        y.setRights(6, 0);
        Check.due("dirty() when the last cell is given back", y.dirty(), Long.MIN_VALUE | 1L << sector | 1);
    }

    /** Promise 23: "bit s for sector s" */
    private static void dirtyAnswersAllSectors() {
        Counted x = Builds.withRoom(0);
        Check.due("dirty() of a file of which all is written", x.dirty(), -1L);
        Check.flushWhole(x);
        Check.due("dirty() behind a flush of it", x.dirty(), 0);
        Counted y = Builds.withRoom(16);
        Check.due("dirty() of 63 sectors", y.dirty(), Long.MAX_VALUE);
    }
}
