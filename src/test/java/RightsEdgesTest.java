/** The edges of rights, and of the promises 14 and 15: setRights, sharers. */
public final class RightsEdgesTest {
    public static void main(String[] args) {
        rightsAreZeroTo255();
        keysWithTheSameRightsShareACell();
        aCellCountsUpToAllKeys();
        aKeyGetsTheRightsOfItsParentWhenItIsMade();
        newRightsNeedACell();
        rightsThatAKeyHasNeedNone();
        theCellOfTheFormerRightsIsGivenBackByTheLast();
        theFormerCellIsGivenBackBehindTheGetting();
        aNewFileHasTheRootThenTheRights();
        setRightsTakesKeysThatExist();
        setRightsTakesRightsInRange();
        setRightsAnswersTheRightsBefore();
        setRightsIsRefusedWithoutRoom();
        sharersTakesRightsInRange();
        sharersAnswersFromNoneToAllKeys();
        Check.end("RightsEdgesTest");
    }

    // ---- rights

    /** Rights: "Rights are told by a number, 0 to 255." */
    private static void rightsAreZeroTo255() {
        Counted x = new Counted();
        int before = 0;
        for (int rights = 1; rights <= 255; rights++) {
            Check.due("setRights(0, " + rights + ")", x.setRights(0, rights), before);
            before = rights;
        }
        Check.due("setRights(0, 0)", x.setRights(0, 0), 255);
        Check.throwsArgument("setRights(0, 256)", () -> x.setRights(0, 256));
        Check.throwsArgument("setRights(0, -1)", () -> x.setRights(0, -1));
    }

    /** Rights: "All keys with the same rights share a cell of 2 units" */
    private static void keysWithTheSameRightsShareACell() {
        Counted x = Builds.chain(3);
        int used = x.used();
        x.setRights(1, 7);
        Check.due("used() with other rights of one", x.used(), used + 2);
        Check.due("their cell", x.cell(12 + 3 * 11), 2);
        x.setRights(2, 7);
        x.setRights(3, 7);
        Check.due("used() with these of three", x.used(), used + 2);
        x.setRights(3, 8);
        Check.due("used() with rights of its own", x.used(), used + 4);
    }

    /** Rights: "which counts them" */
    private static void aCellCountsUpToAllKeys() {
        Counted x = Builds.chain(79);
        Check.due("sharers(0) of all keys", x.sharers(0), 80);
        for (int key = 0; key < 80; key++) {
            x.setRights(key, 255);
            Check.due("sharers(0)", x.sharers(0), 79 - key);
            Check.due("sharers(255)", x.sharers(255), key + 1);
        }
        Check.due("used() with one cell of rights", x.used(), 8 + 79 * 11);
        for (int key = 79; key > 40; key--) {
            x.delete(key);
        }
        Check.due("sharers(255) when some were deleted", x.sharers(255), 41);
    }

    /** Rights: "A key gets the rights of its parent when it is made." */
    private static void aKeyGetsTheRightsOfItsParentWhenItIsMade() {
        Counted x = new Counted();
        x.make(0, 0);
        x.setRights(0, 255);
        Check.due("the key was made ahead of this", x.setRights(1, 0), 0);
        Check.due("a key that is made behind it", x.setRights(x.make(0, 1), 0), 255);
        Check.due("a key below a key with the rights 0", x.setRights(x.make(1, 0), 0), 0);
        x.setRights(1, 9);
        Check.due("a link gets those of its parent, not of its target", x.setRights(x.makeLink(1, 1, 2), 9), 9);
        Check.due("sharers(9)", x.sharers(9), 2);
    }

    /** Rights: "Setting other ones needs a cell for these, if no key has them" */
    private static void newRightsNeedACell() {
        Counted x = new Counted();
        x.make(0, 0);
        x.setRights(1, 255);
        Check.sameCells("a cell for the rights 255", "4:6 10:2 12:6 18:5 23:2 25:-7", x);
        x.setRights(1, 255);
        Check.sameCells("the same rights need none", "4:6 10:2 12:6 18:5 23:2 25:-7", x);
        Check.due("setRights() to what it has, in a full file", Builds.withRoom(0).setRights(6, 0), 0);
    }

    /** Rights: "if no key has them" */
    private static void rightsThatAKeyHasNeedNone() {
        Counted x = Builds.withRoom(2);
        x.setRights(5, 9);
        Check.due("used() of a full file", x.used(), 1020);
        Check.due("setRights() to rights that a key has", x.setRights(6, 9), 0);
        Check.due("setRights() to the rights 0", x.setRights(5, 0), 9);
        Check.throwsState("setRights() to rights that none has", () -> x.setRights(5, 1));
    }

    /** Rights: "then the cell of the former ones is given back, if no key has these any more" */
    private static void theCellOfTheFormerRightsIsGivenBackByTheLast() {
        Counted x = new Counted();
        x.make(0, 0);
        x.setRights(0, 1);
        Check.due("the cell of the rights 0, which a key has", x.cell(10), 2);
        x.setRights(1, 1);
        Check.due("the cell of the rights 0, which none has", x.cell(10), -2);
        Check.due("sharers(0)", x.sharers(0), 0);
        x.setRights(1, 0);
        Check.due("it is got again", x.cell(10), 2);
        Check.due("delete() gives back key and leaf, and it", x.delete(1), 6 + 5 + 2);
        Check.due("it is joined with these", x.cell(10), -13);
        x.make(0, 0);
        Check.due("make() needs none, as its parent has its rights", x.used(), 6 + 2 + 6 + 5);
    }

    /** Rights: "then the cell of the former ones is given back" */
    private static void theFormerCellIsGivenBackBehindTheGetting() {
        Counted x = new Counted();
        for (int rights = 1; rights <= 4; rights++) {
            x.setRights(0, rights);
            Check.sameCells("rights set by the only key",
                    rights % 2 == 1 ? "4:6 10:-2 12:2 14:-2" : "4:6 10:2 12:-4", x);
        }
        Twins.state("setRights() of the only key with some, in a full file", () -> {
            Counted y = Builds.withRoom(2);
            y.setRights(6, 9);
            return y;
        }, y -> y.setRights(6, 10));
    }

    /** Rights: "A new file has, in this order, the cell of the root and that of the rights 0." */
    private static void aNewFileHasTheRootThenTheRights() {
        Counted x = new Counted();
        Check.sameFile("a new file", "4:6 10:2 12:-4 /1/0", x);
        Check.due("place(0)", x.place(0), 4);
        Check.due("sharers(0)", x.sharers(0), 1);
        x.setRights(0, 1);
        Check.due("10 was the cell of the rights 0", x.cell(10), -2);
    }

    // ---- promises 14 and 15

    /**
     * Promise 14: "`key`: a key"
     * Promise 14: "Throws `IndexOutOfBoundsException` if there is no such key"
     */
    private static void setRightsTakesKeysThatExist() {
        Twins.noSuchKey("setRights()", (x, key) -> x.setRights(key, 1));
        Counted x = Builds.chain(79);
        Check.due("setRights() of the root", x.setRights(0, 3), 0);
        Check.due("setRights() of the last key", x.setRights(79, 3), 0);
        Check.due("sharers(3)", x.sharers(3), 2);
    }

    /**
     * Promise 14: "`rights`: 0 to 255"
     * Promise 14: "Throws `IllegalArgumentException` if rights is out of range"
     */
    private static void setRightsTakesRightsInRange() {
        Twins.outOfRange("setRights()", 0, 255, (x, rights) -> x.setRights(0, rights));
        Counted x = new Counted();
        Check.due("setRights() to the greatest", x.setRights(0, 255), 0);
        Check.due("setRights() to the least", x.setRights(0, 0), 255);
    }

    /**
     * Promise 14: "Sets the rights of a key."
     * Promise 14: "Returns the rights before."
     */
    private static void setRightsAnswersTheRightsBefore() {
        Counted x = Builds.chain(2);
        Check.due("setRights(1, 255)", x.setRights(1, 255), 0);
        Check.due("setRights(1, 255) again", x.setRights(1, 255), 255);
        Check.due("setRights(2, 0), which is below it", x.setRights(2, 0), 0);
        Check.due("setRights(0, 0), which is above it", x.setRights(0, 0), 0);
    }

    /** Promise 14: "Throws `IllegalStateException` if there is no room" */
    private static void setRightsIsRefusedWithoutRoom() {
        Twins.state("setRights() in a full file", () -> Builds.withRoom(0), x -> x.setRights(6, 9));
        Twins.state("setRights() with room for 1", () -> Builds.withRoom(1), x -> x.setRights(6, 9));
        Check.due("setRights() with room for 2", Builds.withRoom(2).setRights(6, 9), 0);
    }

    /**
     * Promise 15: "`rights`: 0 to 255"
     * Promise 15: "Throws `IllegalArgumentException` if rights is out of range"
     */
    private static void sharersTakesRightsInRange() {
        Twins.outOfRange("sharers()", 0, 255, Counted::sharers);
        Counted x = new Counted();
        Check.due("sharers(0)", x.sharers(0), 1);
        Check.due("sharers(255)", x.sharers(255), 0);
    }

    /**
     * Promise 15: "Returns how many keys have some rights."
     * Promise 15: "Returns the number."
     */
    private static void sharersAnswersFromNoneToAllKeys() {
        Counted x = Builds.chain(79);
        Check.due("sharers(0) of 80 keys", x.sharers(0), 80);
        for (int rights = 1; rights <= 255; rights++) {
            Check.due("sharers(" + rights + ")", x.sharers(rights), 0);
        }
        x.setRights(79, 255);
        Check.due("sharers(255) of one", x.sharers(255), 1);
        Check.due("sharers(0) of the others", x.sharers(0), 79);
    }
}
