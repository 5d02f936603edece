/** Promises 16 to 20: sectors, cell, place, used, usedByTree. */
public final class CellsTest {
    public static void main(String[] args) {
        sectorsGrowOneByOneAndNeverFall();
        theFirstFreeCellThatIsLargeEnoughIsTaken();
        givenBackCellsAreJoinedOnBothSides();
        cellTellsSizes();
        cellRefusesWhatItMust();
        placeTellsWhereAKeyLies();
        usedIsUsedByTree();
        Check.end("CellsTest");
    }

    private static void sectorsGrowOneByOneAndNeverFall() {
        Counted x = new Counted();
        Check.due("sectors()", x.sectors(), 1);
        x.setRights(0, 1);
        x.setRights(0, 2);
        Check.due("sectors() while there is room", x.sectors(), 1);
        // The free 4 units and one sector more are large enough for a key and a leaf.
        x.make(0, 0);
        Check.due("sectors() behind make()", x.sectors(), 2);
        x.setValue(0, 0, 30, 0);
        int sectors = x.sectors();
        Check.due("sectors() behind setValue()", sectors, 5);
        x.dropValue(0, 0);
        x.delete(1);
        Check.due("sectors() behind giving back all", x.sectors(), 5);
    }

    private static void theFirstFreeCellThatIsLargeEnoughIsTaken() {
        Counted x = new Counted();
        x.setValue(0, 0, 2, 0);
        x.setValue(0, 1, 4, 0);
        x.setValue(0, 2, 8, 0);
        Check.sameFile("three values", "4:6 10:2 12:4 16:3 19:5 24:6 30:3 33:10 43:3 46:-2 /3/7", x);
        x.resize(0, 0, 0);
        x.resize(0, 1, 0);
        Check.sameFile("two holes", "4:6 10:2 12:-4 16:3 19:5 24:-6 30:3 33:10 43:3 46:-2 /3/7", x);
        x.setValue(0, 2, 3, 0);
        Check.sameFile("the 2nd hole is the first that is large enough",
                "4:6 10:2 12:-4 16:3 19:5 24:5 29:-1 30:3 33:-10 43:3 46:-2 /3/7", x);
        x.setValue(0, 3, 0, 0);
        Check.sameFile("the 1st hole, and a rest of it",
                "4:6 10:2 12:3 15:-1 16:3 19:5 24:5 29:-1 30:3 33:-10 43:3 46:-2 /3/7", x);
        x.setRights(0, 1);
        Check.sameFile("the 3rd hole", "4:6 10:-2 12:3 15:-1 16:3 19:5 24:5 29:-1 30:3 33:2 35:-8 43:3 46:-2 /3/7", x);
        x.resize(0, 3, 8);
        Check.sameFile("the file grows, its last free cell with it",
                "4:6 10:-2 12:3 15:-1 16:3 19:5 24:5 29:-1 30:3 33:2 35:-8 43:3 46:10 56:-8 /4/15", x);
    }

    private static void givenBackCellsAreJoinedOnBothSides() {
        Counted x = new Counted();
        for (int name = 0; name < 4; name++) {
            x.setValue(0, name, 0, 0);
        }
        Check.sameFile("four values", "4:6 10:2 12:3 15:5 20:3 23:3 26:3 29:-3 /2/3", x);
        x.dropValue(0, 2);
        Check.sameFile("used ones on both sides", "4:6 10:2 12:3 15:5 20:3 23:-3 26:3 29:-3 /2/3", x);
        x.dropValue(0, 1);
        Check.sameFile("a free one behind", "4:6 10:2 12:3 15:5 20:-6 26:3 29:-3 /2/3", x);
        x.dropValue(0, 3);
        Check.sameFile("free ones on both sides", "4:6 10:2 12:3 15:5 20:-12 /2/3", x);
        x.setValue(0, 1, 0, 0);
        x.setValue(0, 2, 0, 0);
        x.dropValue(0, 1);
        x.dropValue(0, 2);
        Check.sameFile("a free one ahead", "4:6 10:2 12:3 15:5 20:-12 /2/3", x);
    }

    private static void cellTellsSizes() {
        Counted x = new Counted();
        int[] due = {0, 0, 0, 0, 6, 0, 0, 0, 0, 0, 2, 0, -4, 0, 0, 0};
        for (int unit = 0; unit < 16; unit++) {
            Check.due("cell(" + unit + ")", x.cell(unit), due[unit]);
        }
        x.make(0, 0);
        for (int unit = 13; unit < 18; unit++) {
            Check.due("cell(" + unit + ") within a key", x.cell(unit), 0);
        }
        Check.due("cell(18)", x.cell(18), 5);
        Check.due("cell(23)", x.cell(23), -9);
        Check.due("cell(31)", x.cell(31), 0);
    }

    private static void cellRefusesWhatItMust() {
        Counted x = new Counted();
        Check.throwsIndex("cell(-1)", () -> x.cell(-1));
        Check.throwsIndex("cell(16)", () -> x.cell(16));
        Check.throwsIndex("cell(MAX)", () -> x.cell(Integer.MAX_VALUE));
        Check.throwsIndex("cell(MIN)", () -> x.cell(Integer.MIN_VALUE));
        x.make(0, 0);
        Check.due("cell(16) of two sectors", x.cell(16), 0);
        Check.throwsIndex("cell(32)", () -> x.cell(32));
    }

    private static void placeTellsWhereAKeyLies() {
        Counted x = new Counted();
        x.make(0, 0);
        x.make(0, 1);
        Check.due("place(0)", x.place(0), 4);
        Check.due("place(1)", x.place(1), 12);
        Check.due("place(2)", x.place(2), 23);
        x.rename(1, 5);
        x.setValue(1, 0, 30, 0);
        Check.due("a key stays at its place", x.place(1), 12);
        x.delete(2);
        Check.throwsIndex("place(2), which was deleted", () -> x.place(2));
        Check.throwsIndex("place(3)", () -> x.place(3));
        Check.throwsIndex("place(-1)", () -> x.place(-1));
        Check.throwsIndex("place(80)", () -> x.place(80));
        Check.throwsIndex("place(MAX)", () -> x.place(Integer.MAX_VALUE));
    }

    private static void usedIsUsedByTree() {
        Counted x = new Counted();
        int due = 8;
        sameBoth(x, due);
        for (int name = 0; name < 5; name++) {
            x.make(0, name);
        }
        due += 5 * 6 + 2 * 5 + 9;
        sameBoth(x, due);
        x.make(5, 0);
        x.makeLink(6, 0, 5);
        due += 2 * 11;
        sameBoth(x, due);
        x.setValue(6, 0, 30, 0);
        x.setValue(6, 1, 1, 0);
        due += 10 + 10 + 10 + 8 + 3 + 3 + 5;
        sameBoth(x, due);
        x.setRights(6, 1);
        x.setRights(5, 1);
        x.setRights(4, 2);
        due += 2 + 2;
        sameBoth(x, due);
    }

    private static void sameBoth(Counted x, int due) {
        Check.due("used()", x.used(), due);
        Check.due("usedByTree()", x.usedByTree(), due);
        Check.due("usedByTree() again", x.usedByTree(), due);
    }
}
