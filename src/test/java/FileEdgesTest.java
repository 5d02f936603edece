/**
 * The edges of the file, and of the promises 16 to 20: sectors, cell, place, used, usedByTree. What
 * stands in quotation marks above a test is the sentence of the document, or the part of one, that
 * the test holds; SentencesTest looks whether each sentence has one.
 */
public final class FileEdgesTest {
    public static void main(String[] args) {
        aSectorHasSixteenUnits();
        thereIsOneSectorAtFirst();
        thereAreSixtyFourSectorsAtMost();
        theHeadIsInNoCell();
        cellsLieSideBySideUpToTheEnd();
        noTwoFreeCellsAreSideBySide();
        theLowestPlaceThatIsLargeEnoughIsTaken();
        aFreeCellOneUnitTooSmallIsNotTaken();
        theBeginningBecomesTheUsedCell();
        aRestOfOneUnitStaysFree();
        anExactFitLeavesNoRest();
        aNewSectorIsJoinedWithTheFreeCellAhead();
        aNewSectorBehindAUsedCellIsACell();
        theFileGrowsNoEarlierThanItMust();
        oneCallMayGrowTheFileBySeveralSectors();
        theFileGrowsUpToItsLastUnit();
        withoutRoomACallIsRefused();
        roomInSeveralPlacesIsNoRoomForOneCell();
        aCellGivenBackIsJoinedWithNone();
        aCellGivenBackIsJoinedWithTheOneAhead();
        aCellGivenBackIsJoinedWithTheOneBehind();
        aCellGivenBackIsJoinedOnBothSides();
        aCellGivenBackIsJoinedWithOneUnit();
        aCellGivenBackAtTheEndOfTheFileIsJoined();
        theFileNeverBecomesSmaller();
        aCellThatIsGotAgainBeginsAnew();
        cellsAreGotInTheOrderThatIsTold();
        noCellIsGotIfTheLastOneHasNoRoom();
        theFileDoesNotGrowForACallThatFails();
        cellsAreGivenBackBehindTheGetting();
        sectorsAnswersOneToSixtyFour();
        cellTakesUnitsOfTheFileAlone();
        cellAnswersItsSizeWhereItBegins();
        placeTakesKeysThatExist();
        placeAnswersFromTheFirstCellToTheLast();
        usedIsTheSumOfUsedCells();
        usedByTreeCountsEachCellOnce();
        usedByTreeGoesDownToTheLastKey();
        Check.end("FileEdgesTest");
    }

    // ---- the file

    /** The file: "The file has sectors of 16 units" */
    private static void aSectorHasSixteenUnits() {
        Counted x = new Counted();
        Check.due("cell(15)", x.cell(15), 0);
        Check.throwsIndex("cell(16) of one sector", () -> x.cell(16));
        x.make(0, 0);
        Check.due("sectors()", x.sectors(), 2);
        Check.due("cell(31)", x.cell(31), 0);
        Check.throwsIndex("cell(32) of two sectors", () -> x.cell(32));
    }

    /** The file: "1 at first" */
    private static void thereIsOneSectorAtFirst() {
        Check.due("sectors() of a new file", new Counted().sectors(), 1);
    }

    /** The file: "at most 64" */
    private static void thereAreSixtyFourSectorsAtMost() {
        Counted x = Builds.withRoom(16);
        Check.due("sectors() with room for one more", x.sectors(), 63);
        x.make(2, 0);
        Check.due("sectors() with the last one", x.sectors(), 64);
        Check.due("the key lies at its beginning", x.place(7), 63 * 16);
        Check.throwsState("make() for a 65th sector", () -> x.make(3, 0));
        Check.due("sectors() then", x.sectors(), 64);
        Check.throwsIndex("cell(1024)", () -> x.cell(64 * 16));
    }

    /** The file: "The units 0 to 3 are its head; all others are in cells" */
    private static void theHeadIsInNoCell() {
        Counted x = new Counted();
        for (int unit = 0; unit < 4; unit++) {
            Check.due("cell(" + unit + "), which is of the head", x.cell(unit), 0);
        }
        Check.due("cell(4), the first behind the head", x.cell(4), 6);
    }

    /** The file: "side by side, each used or free" */
    private static void cellsLieSideBySideUpToTheEnd() {
        // Check.cellsOf() goes from cell to cell, and fails if these do not end with the file.
        for (int room = 0; room <= 40; room++) {
            Counted x = Builds.withRoom(room);
            int end = 16 * x.sectors();
            String cells = Check.cellsOf(x);
            int left = room - 64 * 16 + end;
            boolean isFreeAtTheEnd = cells.endsWith(" " + (end - left) + ":" + -left + " ");
            Check.due("free units at the end, with room for " + room, isFreeAtTheEnd, left > 0);
        }
    }

    /** The file: "no two free cells are side by side" */
    private static void noTwoFreeCellsAreSideBySide() {
        Counted x = Builds.withValues(4);
        x.make(0, 1);
        x.make(0, 2);
        int[] order = {2, 0, 3, 1};
        for (int name : order) {
            x.dropValue(0, name);
            freeCellsLieApart(x);
        }
        x.delete(1);
        freeCellsLieApart(x);
        x.delete(2);
        freeCellsLieApart(x);
        Check.sameCells("all was given back", "4:6 10:2 12:-36", x);
    }

    private static void freeCellsLieApart(Counted x) {
        Check.due("two free cells are side by side: " + Check.cellsOf(x),
                Check.cellsOf(x).matches(".*:-\\d+ \\d+:-.*"), false);
    }

    /**
     * Free cells of 10, 6 and 4 units, and one of 2 at the end: the root has the values 0, 1 and 2 of
     * the length 0.
     */
    private static Counted withHoles() {
        Counted x = new Counted();
        x.setValue(0, 0, 8, 0);
        x.setValue(0, 1, 4, 0);
        x.setValue(0, 2, 2, 0);
        for (int name = 0; name < 3; name++) {
            x.resize(0, name, 0);
        }
        Check.sameCells("three holes", "4:6 10:2 12:-10 22:3 25:5 30:-6 36:3 39:-4 43:3 46:-2", x);
        return x;
    }

    /** The file: "the free cell with the lowest place that is large enough is taken" */
    private static void theLowestPlaceThatIsLargeEnoughIsTaken() {
        Counted x = withHoles();
        x.resize(0, 0, 2);
        Check.sameCells("4 units, for which the one at 39 would do, too",
                "4:6 10:2 12:4 16:-6 22:3 25:5 30:-6 36:3 39:-4 43:3 46:-2", x);
        x.resize(0, 1, 4);
        x.resize(0, 2, 2);
        Check.sameCells("6 units, then 4 units",
                "4:6 10:2 12:4 16:6 22:3 25:5 30:4 34:-2 36:3 39:-4 43:3 46:-2", x);
    }

    /** The file: "that is large enough" */
    private static void aFreeCellOneUnitTooSmallIsNotTaken() {
        Counted x = withHoles();
        x.resize(0, 0, 5);
        x.resize(0, 1, 5);
        Check.sameCells("7 units twice, so that 3, 6, 4 and 2 are too small",
                "4:6 10:2 12:7 19:-3 22:3 25:5 30:-6 36:3 39:-4 43:3 46:7 53:-11", x);
        x.resize(0, 2, 2);
        Check.sameCells("4 units, for which 3 are too small",
                "4:6 10:2 12:7 19:-3 22:3 25:5 30:4 34:-2 36:3 39:-4 43:3 46:7 53:-11", x);
    }

    /** The file: "its beginning becomes the used cell" */
    private static void theBeginningBecomesTheUsedCell() {
        Counted x = withHoles();
        x.setRights(0, 1);
        Check.due("the cell of 2 units at the beginning of the 10", x.cell(12), 2);
        Check.due("the rest behind it", x.cell(14), -8);
    }

    /** The file: "and the rest of it, if there is some, stays a free cell" */
    private static void aRestOfOneUnitStaysFree() {
        Counted x = withHoles();
        x.resize(0, 0, 7);
        Check.due("9 of 10 units", x.cell(12), 9);
        Check.due("the rest of 1 unit", x.cell(21), -1);
        Check.due("what lies behind the rest", x.cell(22), 3);
    }

    /** The file: "if there is some" */
    private static void anExactFitLeavesNoRest() {
        Counted x = withHoles();
        x.resize(0, 0, 8);
        Check.sameCells("10 of 10 units",
                "4:6 10:2 12:10 22:3 25:5 30:-6 36:3 39:-4 43:3 46:-2", x);
        Counted y = new Counted();
        y.setRights(0, 1);
        y.setRights(0, 2);
        y.setRights(0, 3);
        Check.sameCells("2 of 2 units between used ones, and 2 at last", "4:6 10:-2 12:2 14:-2", y);
    }

    /**
     * The file: "If there is none, the file grows by a sector whose units are free, joined with a free
     *     cell ahead of them"
     */
    private static void aNewSectorIsJoinedWithTheFreeCellAhead() {
        Counted x = new Counted();
        Check.due("the free cell of a new file", x.cell(12), -4);
        x.make(0, 0);
        Check.sameCells("a key and a leaf over the end of the first sector", "4:6 10:2 12:6 18:5 23:-9", x);
    }

    /** The file: "the file grows by a sector whose units are free" */
    private static void aNewSectorBehindAUsedCellIsACell() {
        Counted x = upToTheEndOfASector();
        x.setValue(0, 2, 0, 0);
        Check.sameCells("a value in the third sector", "4:6 10:2 12:3 15:5 20:9 29:3 32:3 35:-13", x);
    }

    /** Two sectors, without a free unit. */
    private static Counted upToTheEndOfASector() {
        Counted x = new Counted();
        x.setValue(0, 0, 0, 0);
        x.setValue(0, 1, 7, 0);
        return x;
    }

    /** The file: "If there is none" */
    private static void theFileGrowsNoEarlierThanItMust() {
        Counted x = upToTheEndOfASector();
        Check.due("sectors() of a file that is just full", x.sectors(), 2);
        Check.sameCells("a file that is just full", "4:6 10:2 12:3 15:5 20:9 29:3", x);
        x.resize(0, 1, 0);
        x.resize(0, 1, 7);
        Check.due("sectors() as there is a free cell", x.sectors(), 2);
    }

    /** The file: "and so on until there is one" */
    private static void oneCallMayGrowTheFileBySeveralSectors() {
        Counted x = new Counted();
        x.setValue(0, 0, 30, 0);
        Check.sameCells("46 units for one call", "4:6 10:2 12:10 22:10 32:10 42:8 50:3 53:5 58:-6", x);
        Check.due("sectors()", x.sectors(), 4);
        x.setRights(0, 1);
        Check.due("sectors() as no more are needed", x.sectors(), 4);
    }

    /**
     * What it is: "A registry in one growing file."
     * The file: "at most 64"
     * The file: "and so on until there is one"
     */
    private static void theFileGrowsUpToItsLastUnit() {
        Counted x = Builds.withRoom(2);
        Check.due("the last free units", x.cell(1022), -2);
        x.setRights(6, 9);
        Check.due("the last units can be used", x.cell(1022), 2);
        Check.due("cell(1023)", x.cell(1023), 0);
        Check.due("used() of a file without a free unit", x.used(), 1020);
        Check.due("usedByTree() of it", x.usedByTree(), 1020);
    }

    /** The file: "If it cannot grow any more, there is no room." */
    private static void withoutRoomACallIsRefused() {
        // Each cell is got in its very size, and is refused with one unit less.
        needs(2, "setRights() with new rights", x -> x.setRights(6, 9));
        needs(3, "setValue() of a new value", x -> x.setValue(5, 9, 0, 0));
        needs(6, "make() with room in the leaf", x -> x.make(1, 9));
        needs(6, "makeLink() with room in the leaf", x -> x.makeLink(1, 9, 0));
        needs(6 + 5, "make() of a first subkey", x -> x.make(2, 9));
        needs(6 + 5, "makeLink() of a first subkey", x -> x.makeLink(2, 9, 0));
        needs(6 + 9 + 5, "make() with a full leaf", x -> x.make(0, 9));
        needs(6 + 9 + 5, "makeLink() with a full leaf", x -> x.makeLink(0, 9, 0));
        needs(9 + 5, "rename() with a full leaf", x -> x.rename(1, 9));
        needs(3 + 9, "setValue() of a fifth value", x -> x.setValue(1, 9, 0, 0));
        needs(4 + 3, "setValue() of 2 units", x -> x.setValue(5, 9, 2, 0));
        needs(10 + 3 + 3, "setValue() of 9 units", x -> x.setValue(5, 9, 9, 0));
        needs(10 + 10 + 10 + 8, "setValue() of a value that is there", x -> x.setValue(5, 1, 30, 0));
        for (int length = 2; length <= 8; length++) {
            int last = length;
            needs(length + 2, "setValue() with a piece", x -> x.setValue(5, 1, last, 0));
        }
        needs(4, "resize() with a last piece of 2", x -> x.resize(5, 1, 26));
        needs(7, "resize() with a last piece of 5", x -> x.resize(5, 1, 29));
        needs(9, "resize() with a piece of 7", x -> x.resize(5, 1, 7));
    }

    private static void needs(int units, String call, Twins.Call made) {
        Counted x = Builds.withRoom(units);
        made.on(x);
        Check.due("sectors() behind " + call, x.sectors(), 64);
        Twins.state(call + " with one unit too few", () -> Builds.withRoom(units - 1), made);
    }

    /**
     * The file: "that is large enough"
     * The file: "there is no room"
     */
    private static void roomInSeveralPlacesIsNoRoomForOneCell() {
        Twins.state("make() with two holes of 3 units", FileEdgesTest::withTwoSmallHoles, x -> x.make(1, 9));
        Counted x = withTwoSmallHoles();
        Check.due("free units, as many as a key needs", 1020 - x.used(), 6);
        x.dropValue(6, 2);
        Check.due("make() with the holes joined", x.make(1, 9), 7);
        Check.due("place(7)", x.place(7), 1012);
    }

    /** A full file but for 3 units at 1012 and 3 at 1018, with a value of the key 6 between them. */
    private static Counted withTwoSmallHoles() {
        Counted x = Builds.withRoom(12);
        x.setValue(6, 1, 0, 0);
        x.setValue(6, 2, 0, 0);
        x.setValue(6, 3, 0, 0);
        x.setValue(5, 2, 0, 0);
        x.dropValue(6, 1);
        x.dropValue(6, 3);
        return x;
    }

    /** The file: "A cell that is given back is joined with the free cells on both sides." */
    private static void aCellGivenBackIsJoinedWithNone() {
        Counted x = Builds.withValues(4);
        Check.sameCells("four values", "4:6 10:2 12:3 15:5 20:3 23:3 26:3 29:-3", x);
        x.dropValue(0, 1);
        Check.sameCells("with used ones on both sides", "4:6 10:2 12:3 15:5 20:-3 23:3 26:3 29:-3", x);
        x.dropValue(0, 0);
        Check.sameCells("with used ones on both sides", "4:6 10:2 12:-3 15:5 20:-3 23:3 26:3 29:-3", x);
    }

    /** The file: "is joined with the free cells" */
    private static void aCellGivenBackIsJoinedWithTheOneAhead() {
        Counted x = Builds.withValues(4);
        x.dropValue(0, 1);
        x.dropValue(0, 2);
        Check.sameCells("with a free one ahead", "4:6 10:2 12:3 15:5 20:-6 26:3 29:-3", x);
    }

    /** The file: "is joined with the free cells" */
    private static void aCellGivenBackIsJoinedWithTheOneBehind() {
        Counted x = Builds.withValues(4);
        x.dropValue(0, 2);
        x.dropValue(0, 1);
        Check.sameCells("with a free one behind", "4:6 10:2 12:3 15:5 20:-6 26:3 29:-3", x);
    }

    /** The file: "on both sides" */
    private static void aCellGivenBackIsJoinedOnBothSides() {
        Counted x = Builds.withValues(4);
        x.dropValue(0, 1);
        x.dropValue(0, 3);
        Check.sameCells("two free ones", "4:6 10:2 12:3 15:5 20:-3 23:3 26:-6", x);
        x.dropValue(0, 2);
        Check.sameCells("with free ones on both sides", "4:6 10:2 12:3 15:5 20:-12", x);
    }

    /** The file: "is joined with the free cells on both sides" */
    private static void aCellGivenBackIsJoinedWithOneUnit() {
        Counted x = withHoles();
        x.resize(0, 1, 7);
        Check.sameCells("one unit is free behind 9",
                "4:6 10:2 12:9 21:-1 22:3 25:5 30:-6 36:3 39:-4 43:3 46:-2", x);
        x.dropValue(0, 0);
        Check.sameCells("with one free unit ahead",
                "4:6 10:2 12:9 21:-4 25:5 30:-6 36:3 39:-4 43:3 46:-2", x);
        Counted y = withHoles();
        y.resize(0, 0, 7);
        y.resize(0, 0, 0);
        Check.sameCells("with one free unit behind",
                "4:6 10:2 12:-10 22:3 25:5 30:-6 36:3 39:-4 43:3 46:-2", y);
    }

    /** The file: "A cell that is given back is joined" */
    private static void aCellGivenBackAtTheEndOfTheFileIsJoined() {
        Counted x = upToTheEndOfASector();
        x.dropValue(0, 1);
        Check.sameCells("a piece and the last cell of the file", "4:6 10:2 12:3 15:5 20:-12", x);
        x.setValue(0, 1, 8, 0);
        Check.sameCells("got again, and more", "4:6 10:2 12:3 15:5 20:10 30:3 33:-15", x);
        Counted y = Builds.withRoom(2);
        y.setRights(6, 9);
        y.setRights(6, 0);
        Check.due("the last cell of the largest file", y.cell(1022), -2);
    }

    /** The file: "The file never becomes smaller." */
    private static void theFileNeverBecomesSmaller() {
        Counted x = Builds.withRoom(0);
        for (int key = 6; key > 0; key--) {
            x.delete(key);
        }
        for (int name = 0; name < 4; name++) {
            x.dropValue(0, name);
        }
        Check.sameCells("all was given back", "4:6 10:2 12:-1012", x);
        Check.due("sectors()", x.sectors(), 64);
        Check.due("cell(1023)", x.cell(1023), 0);
    }

    /** The file: "its beginning becomes the used cell" */
    private static void aCellThatIsGotAgainBeginsAnew() {
        // Values of no special place lie where keys, leaves, an index and a value list come to lie then.
        for (int ahead = 0; ahead < 6; ahead++) {
            Counted x = new Counted();
            x.make(0, 1);
            x.setRights(1, ahead % 3);
            x.setValue(0, 9, ahead < 3 ? 0 : 9 + ahead, -1);
            for (int i = 0; i < 22; i++) {
                x.setValue(i < 7 ? 0 : 1, 90 + i % 7, i < 14 ? 1 : 30, -1 - i);
            }
            for (int i = 0; i < 7; i++) {
                x.dropValue(0, 90 + i);
                x.dropValue(1, 90 + i);
            }
            x.dropValue(0, 9);
            keysAreAsNew(x);
        }
    }

    /** Makes eight keys below the root, and looks whether these have what new keys have. */
    private static void keysAreAsNew(Counted x) {
        for (int key = 2; key <= 9; key++) {
            Check.due("make()", x.make(0, Builds.nameOfSum(6 * key)), key);
            Check.due("list() of a new key", x.list(key), 0);
            Check.throwsIndex("subkeyAt() of a new key", () -> x.subkeyAt(x.find(0, 1), 0));
            Check.due("follow() of a new key", x.follow(key), key);
            Check.due("setRights() of a new key", x.setRights(key, 0), 0);
        }
        Check.due("list(0)", x.list(0), 93);
        for (int key = 2; key <= 9; key++) {
            Check.due("setValue() of a new key", x.setValue(key, 5, 2, 3), 1);
            Check.due("unit() of it", x.unit(key, 5, 1), 31 * 3 + 17);
            Check.due("make() below a new key", x.make(key, 5), 8 + key);
            Check.due("list() of it", x.list(key), 11);
        }
        Check.due("usedByTree()", x.usedByTree(), x.used());
    }

    /** The file: "A call gets all cells that it needs first, in the order that is told" */
    private static void cellsAreGotInTheOrderThatIsTold() {
        Counted x = withHoles();
        // 10 and 3 units, then the cell of 3: the 10 go into the hole of 10 and 3 + 3 into that of 6.
        x.setValue(0, 3, 9, 0);
        Check.sameCells("pieces, then the cell",
                "4:6 10:2 12:10 22:3 25:5 30:3 33:3 36:3 39:-4 43:3 46:-2", x);
        Counted y = withHoles();
        y.make(0, 1);
        Check.sameCells("key, then leaf", "4:6 10:2 12:6 18:-4 22:3 25:5 30:5 35:-1 36:3 39:-4 43:3 46:-2", y);
    }

    /**
     * The file: "if there is no room for one of them, nothing is got at all"
     * The file: "and the call fails"
     */
    private static void noCellIsGotIfTheLastOneHasNoRoom() {
        // In these there is room for all cells but the last one.
        Twins.state("make() without room for the leaf", () -> Builds.withRoom(6), x -> x.make(2, 9));
        Twins.state("make() without room for the index", () -> Builds.withRoom(6 + 8), x -> x.make(0, 9));
        Twins.state("make() without room for a leaf beside", () -> Builds.withRoom(6 + 9), x -> x.make(0, 9));
        Twins.state("makeLink() without room for the leaf", () -> Builds.withRoom(6), x -> x.makeLink(2, 9, 1));
        Twins.state("rename() without room for the leaf", () -> Builds.withRoom(9), x -> x.rename(4, 9));
        Twins.state("setValue() without room for a 2nd piece", () -> Builds.withRoom(10), x -> x.setValue(5, 0, 16, 9));
        Twins.state("setValue() without room for the cell", () -> Builds.withRoom(10), x -> x.setValue(5, 9, 8, 9));
        Twins.state("setValue() without room for the list", () -> Builds.withRoom(13), x -> x.setValue(1, 9, 8, 9));
        Twins.state("resize() without room for a 2nd piece", () -> {
            Counted x = Builds.withRoom(0);
            x.resize(5, 0, 8);
            x.make(1, 9);
            x.makeLink(1, 10, 0);
            Check.due("free units of those that the pieces had", 1020 - x.used(), 28 - 12);
            return x;
        }, x -> x.resize(5, 0, 24));
    }

    /** The file: "(also the file has not grown)" */
    private static void theFileDoesNotGrowForACallThatFails() {
        for (int room = 16; room < 38; room++) {
            Counted x = Builds.withRoom(room);
            int sectors = x.sectors();
            Check.due("the file can grow, with room for " + room, sectors, 64 - room / 16);
            Check.throwsState("setValue(), with room for " + room, () -> x.setValue(5, 0, 30, 0));
            Check.due("sectors() behind it, with room for " + room, x.sectors(), sectors);
        }
        Twins.state("make() that would grow the file", () -> Builds.withRoom(19), x -> x.make(0, 9));
        Twins.state("setValue() that would grow it", () -> Builds.withRoom(37), x -> x.setValue(5, 0, 30, 1));
    }

    /** The file: "Then it gives back what is not needed any more, in the order that is told." */
    private static void cellsAreGivenBackBehindTheGetting() {
        // What these give back would be room enough for what they get.
        Twins.state("setValue() of what is there", () -> Builds.withRoom(9), x -> x.setValue(5, 0, 8, 0));
        Twins.state("resize() to one unit less", () -> Builds.withRoom(6), x -> x.resize(5, 0, 29));
        Twins.state("setRights() of the last that has some", () -> {
            Counted x = Builds.withRoom(2);
            x.setRights(6, 9);
            return x;
        }, x -> x.setRights(6, 10));
        Twins.state("rename() in a full leaf", () -> Builds.withRoom(13), x -> x.rename(4, 0));
        Counted x = new Counted();
        x.setRights(0, 1);
        Check.sameCells("the rights 0 lay where 2 units are free now", "4:6 10:-2 12:2 14:-2", x);
    }

    // ---- promises 16 to 20

    /**
     * Promise 16: "Returns how many sectors the file has."
     * Promise 16: "Returns 1 to 64."
     */
    private static void sectorsAnswersOneToSixtyFour() {
        Counted x = new Counted();
        Check.due("sectors() at first", x.sectors(), 1);
        for (int key = 1; key <= 79; key++) {
            x.make(key - 1, 0);
            Check.due("sectors() with " + key + " keys", x.sectors(), (12 + 11 * key + 15) / 16);
        }
        Check.due("sectors() of a full file", Builds.withRoom(0).sectors(), 64);
    }

    /**
     * Promise 17: "`unit`: 0 to 16 * sectors - 1"
     * Promise 17: "Throws `IndexOutOfBoundsException` if there is no such unit"
     */
    private static void cellTakesUnitsOfTheFileAlone() {
        Counted x = new Counted();
        Check.due("cell(0)", x.cell(0), 0);
        Check.due("cell(15)", x.cell(15), 0);
        for (int unit : new int[] {Integer.MIN_VALUE, -16, -1, 16, 1023, 1024, Integer.MAX_VALUE}) {
            Twins.index("cell(" + unit + ") of a new file", Counted::new, y -> y.cell(unit));
        }
        Check.due("cell(1023) of a full file", Builds.withRoom(0).cell(1023), 0);
        for (int unit : new int[] {Integer.MIN_VALUE, -1, 1024, Integer.MAX_VALUE}) {
            Twins.index("cell(" + unit + ") of a full file", () -> Builds.withRoom(0), y -> y.cell(unit));
        }
        Counted z = Builds.withRoom(16);
        Check.due("cell(1007) of 63 sectors", z.cell(1007), 0);
        Check.throwsIndex("cell(1008) of 63 sectors", () -> z.cell(1008));
    }

    /**
     * Promise 17: "Returns the cell that begins at a unit."
     * Promise 17: "Returns its size, below 0 if it is free; 0 if none begins there."
     */
    private static void cellAnswersItsSizeWhereItBegins() {
        Counted x = new Counted();
        x.setValue(0, 0, 7, 0);
        int[] begins = {4, 10, 12, 21, 24, 29};
        int[] sizes = {6, 2, 9, 3, 5, -3};
        int next = 0;
        for (int unit = 0; unit < 32; unit++) {
            boolean isBegin = next < begins.length && begins[next] == unit;
            Check.due("cell(" + unit + ")", x.cell(unit), isBegin ? sizes[next] : 0);
            next += isBegin ? 1 : 0;
        }
        x.resize(0, 0, 0);
        x.resize(0, 0, 6);
        Check.due("cell(12), the least free cell behind it", x.cell(20), -1);
        Check.due("cell(21)", x.cell(21), 3);
        x.setRights(0, 1);
        x.dropValue(0, 0);
        x.setRights(0, 0);
        Check.due("cell(12), where cells lay that are joined now", x.cell(12), -20);
        Check.due("cell(21), within it", x.cell(21), 0);
        Check.due("cell(29), within it", x.cell(29), 0);
    }

    /**
     * Promise 18: "`key`: a key"
     * Promise 18: "Throws `IndexOutOfBoundsException` if there is no such key"
     */
    private static void placeTakesKeysThatExist() {
        Twins.noSuchKey("place()", Counted::place);
        Counted x = Builds.chain(79);
        Check.due("place(0), the least", x.place(0), 4);
        Check.due("place(79), the greatest", x.place(79), 12 + 78 * 11);
        x.delete(79);
        Check.throwsIndex("place(79), which was deleted", () -> x.place(79));
        x.crash();
        Check.throwsIndex("place(1) behind a crash", () -> x.place(1));
    }

    /**
     * Promise 18: "Returns where the cell of a key begins."
     * Promise 18: "Returns the unit."
     */
    private static void placeAnswersFromTheFirstCellToTheLast() {
        Counted x = Builds.withRoom(6);
        int key = x.make(1, 9);
        Check.due("the cell of a key at the very end", x.place(key), 1018);
        Check.due("its size", x.cell(1018), 6);
        Check.due("the root lies first", x.place(0), 4);
    }

    /**
     * Promise 19: "Returns the units of all used cells, by going through the file."
     * Promise 19: "Returns the sum of their sizes."
     */
    private static void usedIsTheSumOfUsedCells() {
        Check.due("used() of a new file", new Counted().used(), 8);
        for (int room = 0; room <= 40; room++) {
            Check.due("used() with room for " + room, Builds.withRoom(room).used(), 1020 - room);
        }
        Counted x = withHoles();
        Check.due("used() with holes", x.used(), 6 + 2 + 3 * 3 + 5);
    }

    /**
     * Promise 20: "Returns the same, by going through the tree from the root on: cells of keys, leaves,
     *     indexes, value lists, values, pieces, and of rights, each once."
     * Promise 20: "Returns the sum of their sizes."
     */
    private static void usedByTreeCountsEachCellOnce() {
        Check.due("usedByTree() of a new file", new Counted().usedByTree(), 8);
        Counted x = Builds.withFullList();
        Check.due("keys, 8 leaves, an index, rights", x.usedByTree(), 33 * 6 + 8 * 5 + 9 + 2);
        for (int key = 0; key <= 32; key++) {
            x.setRights(key, 255 - key % 2);
        }
        Check.due("two rights of many keys", x.usedByTree(), 33 * 6 + 8 * 5 + 9 + 2 * 2);
        x.makeLink(1, 0, 2);
        Check.due("a link, and not its target again", x.usedByTree(), 34 * 6 + 9 * 5 + 9 + 2 * 2);
        Counted y = Builds.withValues(8);
        y.setValue(0, 7, 30, 0);
        Check.due("8 values, their list, 4 pieces", y.usedByTree(), 8 + 8 * 3 + 9 + 10 + 10 + 10 + 8);
        Check.due("usedByTree() again", y.usedByTree(), y.used());
    }

    /** Promise 20: "from the root on" */
    private static void usedByTreeGoesDownToTheLastKey() {
        Counted x = Builds.chain(79);
        Check.due("usedByTree() of the deepest tree", x.usedByTree(), 8 + 79 * 11);
        Counted y = new Counted();
        for (int key = 1; key <= 79; key++) {
            y.make((key - 1) / 4, key);
        }
        Check.due("usedByTree() of a wide tree", y.usedByTree(), y.used());
        Check.due("used() of it", y.used(), 8 + 79 * 6 + 20 * 5);
        Counted z = Builds.withRoom(0);
        Check.due("usedByTree() of a full file", z.usedByTree(), 1020);
    }
}
