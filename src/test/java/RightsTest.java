/** Promises 14 and 15: setRights, sharers. */
public final class RightsTest {
    public static void main(String[] args) {
        setRightsSharesCells();
        setRightsGetsBeforeItGivesBack();
        setRightsRefusesWhatItMust();
        sharersCountsKeys();
        Check.end("RightsTest");
    }

    private static void setRightsSharesCells() {
        Counted x = new Counted();
        x.make(0, 1);
        int before = x.used();
        Check.due("setRights(1, 255)", x.setRights(1, 255), 0);
        Check.due("a cell is got", x.used(), before + 2);
        Check.due("setRights(0, 255)", x.setRights(0, 255), 0);
        Check.due("the cell of the rights 0 is given back", x.used(), before);
        Check.due("it lay at 10", x.cell(10), -2);
        Check.due("setRights(1, 255) again", x.setRights(1, 255), 255);
        Check.due("nothing is got", x.used(), before);
        Check.due("a new key has those of its parent", x.setRights(x.make(1, 0), 0), 255);
        Check.due("the root has its own", x.setRights(0, 255), 255);
        Check.due("usedByTree()", x.usedByTree(), x.used());
    }

    private static void setRightsGetsBeforeItGivesBack() {
        Counted x = new Counted();
        x.setRights(0, 1);
        Check.sameFile("the cell is another one", "4:6 10:-2 12:2 14:-2 /1/1", x);
        x.setRights(0, 2);
        Check.sameFile("the first free cell is taken", "4:6 10:2 12:-4 /1/1", x);
    }

    private static void setRightsRefusesWhatItMust() {
        Counted x = new Counted();
        String before = Check.fileOf(x);
        Check.throwsIndex("setRights(1, 0)", () -> x.setRights(1, 0));
        Check.throwsIndex("setRights(-1, 0)", () -> x.setRights(-1, 0));
        Check.throwsIndex("setRights(1, 256)", () -> x.setRights(1, 256));
        Check.throwsArgument("setRights(0, 256)", () -> x.setRights(0, 256));
        Check.throwsArgument("setRights(0, -1)", () -> x.setRights(0, -1));
        Check.throwsArgument("setRights(0, MIN)", () -> x.setRights(0, Integer.MIN_VALUE));
        Check.sameFile("setRights() threw", before, x);
    }

    private static void sharersCountsKeys() {
        Counted x = new Counted();
        for (int key = 1; key <= 5; key++) {
            x.make(key - 1, 0);
        }
        Check.due("sharers(0)", x.sharers(0), 6);
        Check.due("sharers(255)", x.sharers(255), 0);
        x.setRights(2, 255);
        x.setRights(4, 255);
        Check.due("sharers(0)", x.sharers(0), 4);
        Check.due("sharers(255)", x.sharers(255), 2);
        x.delete(5);
        Check.due("sharers(0) behind a delete", x.sharers(0), 3);
        x.delete(4);
        Check.due("sharers(255) behind a delete", x.sharers(255), 1);
        x.makeLink(2, 9, 0);
        Check.due("sharers(255) with a link", x.sharers(255), 2);
        Check.throwsArgument("sharers(-1)", () -> x.sharers(-1));
        Check.throwsArgument("sharers(256)", () -> x.sharers(256));
        Check.throwsArgument("sharers(MAX)", () -> x.sharers(Integer.MAX_VALUE));
    }
}
