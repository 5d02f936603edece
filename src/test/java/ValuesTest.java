/** Promises 10 to 13: setValue, resize, dropValue, unit. */
public final class ValuesTest {
    public static void main(String[] args) {
        setValueGetsItsCellsInOrder();
        setValueReplacesAValue();
        setValueGetsALongerListForFive();
        setValueRefusesWhatItMust();
        resizeKeepsThePiecesAlike();
        resizeGetsBeforeItGivesBack();
        resizeRefusesWhatItMust();
        dropValueGivesBackAll();
        dropValueRefusesWhatItMust();
        unitIsWorkedOutOfTheSeed();
        unitRefusesWhatItMust();
        Check.end("ValuesTest");
    }

    private static void setValueGetsItsCellsInOrder() {
        Counted x = new Counted();
        Check.due("setValue(0, 5, 20, 1)", x.setValue(0, 5, 20, 1), 1);
        // Pieces of 8, 8 and 4 units and 2 more each, then the cell, then the value list.
        Check.sameFile("a value of 20", "4:6 10:2 12:10 22:10 32:6 38:3 41:5 46:-2 /3/7", x);
        Check.due("setValue(0, 6, 1, 1)", x.setValue(0, 6, 1, 1), 2);
        Check.sameFile("a value of 1", "4:6 10:2 12:10 22:10 32:6 38:3 41:5 46:3 49:-15 /4/15", x);
        x.setValue(0, 7, 2, 1);
        Check.sameFile("a value of 2",
                "4:6 10:2 12:10 22:10 32:6 38:3 41:5 46:3 49:4 53:3 56:-8 /4/15", x);
        x.setValue(0, 8, 0, 1);
        Check.sameFile("a value of 0",
                "4:6 10:2 12:10 22:10 32:6 38:3 41:5 46:3 49:4 53:3 56:3 59:-5 /4/15", x);
    }

    private static void setValueReplacesAValue() {
        Counted x = new Counted();
        x.setValue(0, 1, 8, 3);
        x.setValue(0, 2, 0, 0);
        Check.sameFile("two values", "4:6 10:2 12:10 22:3 25:5 30:3 33:-15 /3/7", x);
        // All pieces are got anew, ahead of giving back those that there were.
        Check.due("setValue(0, 1, 8, 4)", x.setValue(0, 1, 8, 4), 2);
        Check.sameFile("set anew", "4:6 10:2 12:-10 22:3 25:5 30:3 33:10 43:-5 /3/7", x);
        Check.due("unit(0, 1, 0)", x.unit(0, 1, 0), 124);
        Check.due("setValue(0, 1, 1, 5)", x.setValue(0, 1, 1, 5), 2);
        Check.sameFile("set shorter", "4:6 10:2 12:-10 22:3 25:5 30:3 33:-15 /3/7", x);
        Check.due("unit(0, 1, 0)", x.unit(0, 1, 0), 155);
    }

    private static void setValueGetsALongerListForFive() {
        Counted x = new Counted();
        for (int name = 0; name < 4; name++) {
            Check.due("setValue() of a new value", x.setValue(0, name, 0, 0), name + 1);
        }
        Check.due("used() with 4", x.used(), 8 + 4 * 3 + 5);
        Check.due("the list for up to 4", x.cell(15), 5);
        Check.due("setValue() of the 5th", x.setValue(0, 99, 0, 0), 5);
        Check.sameFile("5 values", "4:6 10:2 12:3 15:-5 20:3 23:3 26:3 29:3 32:9 41:-7 /3/7", x);
        x.dropValue(0, 0);
        x.dropValue(0, 1);
        Check.due("the longer list stays", x.cell(32), 9);
        x.setValue(0, 0, 0, 0);
        x.setValue(0, 1, 0, 0);
        Check.due("the longer list is got once", x.used(), 8 + 5 * 3 + 9);
        for (int name = 4; name < 7; name++) {
            x.setValue(0, name, 0, 0);
        }
        String before = Check.fileOf(x);
        Check.throwsState("the 9th value", () -> x.setValue(0, 7, 0, 0));
        Check.throwsState("the 9th value, with pieces", () -> x.setValue(0, 7, 30, 0));
        Check.sameFile("there were 8 values", before, x);
        Check.due("one of the 8 again", x.setValue(0, 6, 30, 0), 8);
    }

    private static void setValueRefusesWhatItMust() {
        Counted x = new Counted();
        x.makeLink(0, 0, 0);
        String before = Check.fileOf(x);
        Check.throwsIndex("setValue(2, 0, 0, 0)", () -> x.setValue(2, 0, 0, 0));
        Check.throwsIndex("setValue(-1, -1, -1, 0)", () -> x.setValue(-1, -1, -1, 0));
        Check.throwsArgument("setValue(0, -1, 0, 0)", () -> x.setValue(0, -1, 0, 0));
        Check.throwsArgument("setValue(0, 100, 0, 0)", () -> x.setValue(0, 100, 0, 0));
        Check.throwsArgument("setValue(0, 0, -1, 0)", () -> x.setValue(0, 0, -1, 0));
        Check.throwsArgument("setValue(0, 0, 31, 0)", () -> x.setValue(0, 0, 31, 0));
        Check.throwsArgument("setValue(0, 0, MAX, 0)", () -> x.setValue(0, 0, Integer.MAX_VALUE, 0));
        Check.throwsArgument("setValue(link, 100, 0, 0)", () -> x.setValue(1, 100, 0, 0));
        Check.throwsArgument("setValue(link, 0, 31, 0)", () -> x.setValue(1, 0, 31, 0));
        Check.throwsState("setValue(link, 0, 0, 0)", () -> x.setValue(1, 0, 0, 0));
        Check.sameFile("setValue() threw", before, x);
    }

    private static void resizeKeepsThePiecesAlike() {
        Counted x = new Counted();
        x.setValue(0, 1, 20, 7);
        Check.sameFile("8, 8, 4", "4:6 10:2 12:10 22:10 32:6 38:3 41:5 46:-2 /3/7", x);
        Check.due("resize to 24", x.resize(0, 1, 24), 20);
        Check.sameFile("8, 8, 8", "4:6 10:2 12:10 22:10 32:-6 38:3 41:5 46:10 56:-8 /4/15", x);
        Check.due("resize to 30", x.resize(0, 1, 30), 24);
        Check.sameFile("8, 8, 8, 6", "4:6 10:2 12:10 22:10 32:-6 38:3 41:5 46:10 56:8 /4/15", x);
        Check.due("resize to 16", x.resize(0, 1, 16), 30);
        Check.sameFile("8, 8", "4:6 10:2 12:10 22:10 32:-6 38:3 41:5 46:-18 /4/15", x);
        Check.due("resize to 16 again", x.resize(0, 1, 16), 16);
        Check.sameFile("8, 8 again", "4:6 10:2 12:10 22:10 32:-6 38:3 41:5 46:-18 /4/15", x);
        Check.due("resize to 1", x.resize(0, 1, 1), 16);
        Check.due("the seed is the same", x.unit(0, 1, 0), 217);
        Check.sameFile("no piece", "4:6 10:2 12:-26 38:3 41:5 46:-18 /4/15", x);
        Check.due("resize to 0", x.resize(0, 1, 0), 1);
        Check.due("resize to 2", x.resize(0, 1, 2), 0);
        Check.due("unit(0, 1, 1)", x.unit(0, 1, 1), 234);
        Check.due("delete gives back the pieces", x.dropValue(0, 1), 4 + 3 + 5);
    }

    private static void resizeGetsBeforeItGivesBack() {
        Counted x = new Counted();
        x.setValue(0, 1, 4, 0);
        Check.sameFile("4", "4:6 10:2 12:6 18:3 21:5 26:-6 /2/3", x);
        x.resize(0, 1, 3);
        Check.sameFile("3 beside 4", "4:6 10:2 12:-6 18:3 21:5 26:5 31:-1 /2/3", x);
        x.resize(0, 1, 4);
        Check.sameFile("4 again", "4:6 10:2 12:6 18:3 21:5 26:-6 /2/3", x);
    }

    private static void resizeRefusesWhatItMust() {
        Counted x = new Counted();
        x.setValue(0, 1, 4, 0);
        String before = Check.fileOf(x);
        Check.throwsIndex("resize(1, 1, 0)", () -> x.resize(1, 1, 0));
        Check.throwsIndex("resize(0, 2, 0)", () -> x.resize(0, 2, 0));
        Check.throwsIndex("resize(0, -1, 0)", () -> x.resize(0, -1, 0));
        Check.throwsIndex("resize(0, 100, 0)", () -> x.resize(0, 100, 0));
        Check.throwsIndex("resize(0, 2, 31)", () -> x.resize(0, 2, 31));
        Check.throwsIndex("resize(1, 1, -1)", () -> x.resize(1, 1, -1));
        Check.throwsArgument("resize(0, 1, -1)", () -> x.resize(0, 1, -1));
        Check.throwsArgument("resize(0, 1, 31)", () -> x.resize(0, 1, 31));
        Check.throwsArgument("resize(0, 1, MIN)", () -> x.resize(0, 1, Integer.MIN_VALUE));
        Check.sameFile("resize() threw", before, x);
        Check.due("resize(0, 1, 4)", x.resize(0, 1, 4), 4);
    }

    private static void dropValueGivesBackAll() {
        Counted x = new Counted();
        x.setValue(0, 1, 30, 0);
        x.setValue(0, 2, 1, 2);
        x.setValue(0, 3, 9, 3);
        Check.due("dropValue(0, 1)", x.dropValue(0, 1), 10 + 10 + 10 + 8 + 3);
        Check.throwsIndex("unit() of it", () -> x.unit(0, 1, 0));
        Check.due("the others stay", x.unit(0, 2, 0), 62);
        Check.due("the others stay", x.unit(0, 3, 8), 93 + 8 * 17);
        Check.due("dropValue(0, 3)", x.dropValue(0, 3), 10 + 3 + 3);
        Check.due("dropValue() of the last with the list", x.dropValue(0, 2), 3 + 5);
        Check.due("used()", x.used(), 8);
        for (int name = 0; name < 5; name++) {
            x.setValue(0, name, 0, 0);
        }
        for (int name = 0; name < 4; name++) {
            Check.due("dropValue() of others", x.dropValue(0, name), 3);
        }
        Check.due("dropValue() with the long list", x.dropValue(0, 4), 3 + 9);
        Check.due("used()", x.used(), 8);
        Check.due("a value after all", x.setValue(0, 4, 0, 0), 1);
    }

    private static void dropValueRefusesWhatItMust() {
        Counted x = new Counted();
        x.make(0, 0);
        x.setValue(0, 1, 30, 0);
        String before = Check.fileOf(x);
        Check.throwsIndex("dropValue(1, 1)", () -> x.dropValue(1, 1));
        Check.throwsIndex("dropValue(2, 1)", () -> x.dropValue(2, 1));
        Check.throwsIndex("dropValue(-1, 1)", () -> x.dropValue(-1, 1));
        Check.throwsIndex("dropValue(0, 0)", () -> x.dropValue(0, 0));
        Check.throwsIndex("dropValue(0, -1)", () -> x.dropValue(0, -1));
        Check.throwsIndex("dropValue(0, 100)", () -> x.dropValue(0, 100));
        Check.sameFile("dropValue() threw", before, x);
    }

    private static void unitIsWorkedOutOfTheSeed() {
        Counted x = new Counted();
        int[] seeds = {0, 1, -1, 69273666, Integer.MAX_VALUE, Integer.MIN_VALUE};
        for (int seed : seeds) {
            x.setValue(0, 99, 30, seed);
            for (int unit = 0; unit < 30; unit++) {
                long due = 31L * seed + 17L * unit;
                Check.due("unit(0, 99, " + unit + ") of " + seed, x.unit(0, 99, unit), (int) due);
            }
        }
        x.setValue(0, 0, 1, 5);
        Check.due("unit(0, 0, 0)", x.unit(0, 0, 0), 155);
    }

    private static void unitRefusesWhatItMust() {
        Counted x = new Counted();
        x.setValue(0, 0, 0, 0);
        x.setValue(0, 1, 1, 0);
        x.setValue(0, 2, 9, 0);
        Check.throwsIndex("unit(0, 0, 0)", () -> x.unit(0, 0, 0));
        Check.throwsIndex("unit(0, 1, 1)", () -> x.unit(0, 1, 1));
        Check.throwsIndex("unit(0, 2, 9)", () -> x.unit(0, 2, 9));
        Check.throwsIndex("unit(0, 2, -1)", () -> x.unit(0, 2, -1));
        Check.throwsIndex("unit(0, 2, MAX)", () -> x.unit(0, 2, Integer.MAX_VALUE));
        Check.throwsIndex("unit(0, 2, MIN)", () -> x.unit(0, 2, Integer.MIN_VALUE));
        Check.throwsIndex("unit(0, 3, 0)", () -> x.unit(0, 3, 0));
        Check.throwsIndex("unit(0, -1, 0)", () -> x.unit(0, -1, 0));
        Check.throwsIndex("unit(1, 2, 0)", () -> x.unit(1, 2, 0));
        x.resize(0, 2, 8);
        Check.throwsIndex("unit(0, 2, 8)", () -> x.unit(0, 2, 8));
    }
}
