/** The edges of links, and of the promises 3 and 9: makeLink, follow. */
public final class LinkEdgesTest {
    public static void main(String[] args) {
        aLinkHasNoSubkeys();
        aLinkHasNoValues();
        aLinkIsAKeyInAllElse();
        followingGoesToWhatIsNoLink();
        followingGoesByFourLinks();
        makeLinkTakesKeysThatExist();
        makeLinkTakesTargetsThatExist();
        makeLinkTakesNamesInRange();
        makeLinkIsRefusedBelowALink();
        makeLinkIsRefusedForANameThatIsThere();
        makeLinkIsRefusedForAFullList();
        makeLinkIsRefusedBehindEightyKeys();
        makeLinkIsRefusedWithoutRoom();
        followTakesKeysThatExist();
        followAnswersNothingIfATargetHasGone();
        followAnswersNothingForMoreThanFourLinks();
        linksToADeletedKeyStay();
        Check.end("LinkEdgesTest");
    }

    // ---- keys and lists

    /** Keys and lists: "A link is a key that has a target, a key, and neither subkeys" */
    private static void aLinkHasNoSubkeys() {
        Counted x = Builds.links(2);
        x.make(1, 5);
        Check.due("list() of a link, though its target has a subkey", x.list(2), 0);
        Check.due("find() below it", x.find(2, 5), -1);
        Check.throwsIndex("subkeyAt() below it", () -> x.subkeyAt(2, 0));
        Check.throwsState("make() below it", () -> x.make(2, 6));
        Check.throwsState("makeLink() below it", () -> x.makeLink(2, 6, 0));
        Check.throwsState("make() below a link to a link", () -> x.make(3, 6));
    }

    /** Keys and lists: "nor values" */
    private static void aLinkHasNoValues() {
        Counted x = Builds.links(1);
        x.setValue(1, 7, 3, 5);
        Check.throwsState("setValue() of a link", () -> x.setValue(2, 7, 3, 5));
        Check.throwsState("setValue() of a link, another one", () -> x.setValue(2, 8, 0, 0));
        Check.throwsIndex("unit() of a link, though its target has it", () -> x.unit(2, 7, 0));
        Check.throwsIndex("resize() of a link", () -> x.resize(2, 7, 3));
        Check.throwsIndex("dropValue() of a link", () -> x.dropValue(2, 7));
    }

    /** Keys and lists: "A link is a key" */
    private static void aLinkIsAKeyInAllElse() {
        Counted x = Builds.links(1);
        Check.due("the cell of a link", x.cell(x.place(2)), 6);
        Check.due("sharers(0)", x.sharers(0), 3);
        Check.due("setRights() of a link", x.setRights(2, 255), 0);
        Check.due("sharers(255)", x.sharers(255), 1);
        Check.due("rename() of a link", x.rename(2, 9999), 1);
        Check.due("find() of a link", x.find(0, 9999), 2);
        Check.due("watch() of a link", x.watch(2, 4, true), true);
        Check.due("follow() of it", x.follow(2), 1);
        Check.due("delete() of a link, with its rights", x.delete(2), 6 + 2);
        Check.due("follow() of what was its target", x.follow(1), 1);
    }

    /**
     * Keys and lists: "To follow a key is to go to it, if it is no link, and otherwise to follow its
     *     target"
     */
    private static void followingGoesToWhatIsNoLink() {
        Counted x = Builds.links(1);
        Check.due("follow() of the root", x.follow(0), 0);
        Check.due("follow() of a key", x.follow(1), 1);
        Check.due("follow() of a link", x.follow(2), 1);
        Check.due("follow() of a link to the root", x.follow(x.makeLink(1, 0, 0)), 0);
        Counted y = Builds.chain(77);
        y.makeLink(77, 0, 77);
        y.makeLink(77, 1, 78);
        Check.due("follow() of the last key that can be", y.follow(79), 77);
    }

    /** Keys and lists: "at most 4 links in all" */
    private static void followingGoesByFourLinks() {
        Counted x = Builds.links(8);
        for (int links = 0; links <= 8; links++) {
            Check.due("follow() by " + links + " links", x.follow(1 + links), links <= 4 ? 1 : -1);
        }
    }

    // ---- promises 3 and 9

    /**
     * Promise 3: "`key`: the key whose subkey it is"
     * Promise 3: "Throws `IndexOutOfBoundsException` if there is no such key, of either"
     */
    private static void makeLinkTakesKeysThatExist() {
        Twins.noSuchKey("makeLink()", (x, key) -> x.makeLink(key, 0, 0));
        Counted x = Builds.chain(78);
        Check.due("makeLink() below the last key", x.makeLink(78, 9999, 0), 79);
        Check.due("find() of it", x.find(78, 9999), 79);
    }

    /**
     * Promise 3: "`target`: a key, which may be a link"
     * Promise 3: "of either"
     */
    private static void makeLinkTakesTargetsThatExist() {
        Twins.noSuchKey("makeLink() for the target", (x, target) -> x.makeLink(0, 0, target));
        Counted x = Builds.rich();
        Check.due("makeLink() to the root, below it", x.makeLink(0, 10, 0), 5);
        Check.due("makeLink() to a link", x.makeLink(0, 11, 3), 6);
        Check.due("makeLink() to the key of which it is a subkey", x.makeLink(4, 0, 4), 7);
        Check.due("makeLink() to the newest key", x.makeLink(0, 13, 7), 8);
        Check.throwsIndex("makeLink() to the link that it would be", () -> x.makeLink(0, 14, 9));
        Check.due("follow(6)", x.follow(6), 1);
        Check.due("follow(8)", x.follow(8), 4);
    }

    /**
     * Promise 3: "`name`: 0 to 9999"
     * Promise 3: "Throws `IllegalArgumentException` if name is out of range"
     * Promise 3: "Makes a link."
     * Promise 3: "Returns number of the link."
     */
    private static void makeLinkTakesNamesInRange() {
        Twins.outOfRange("makeLink()", 0, 9999, (x, name) -> x.makeLink(0, name, 1));
        Counted x = new Counted();
        Check.due("makeLink() with the least name", x.makeLink(0, 0, 0), 1);
        Check.due("makeLink() with the greatest name", x.makeLink(0, 9999, 0), 2);
        Check.due("find(0, 0)", x.find(0, 0), 1);
        Check.due("find(0, 9999)", x.find(0, 9999), 2);
    }

    /** Promise 3: "Throws `IllegalStateException` as for make()" */
    private static void makeLinkIsRefusedBelowALink() {
        Twins.state("makeLink() below a link", Builds::rich, x -> x.makeLink(3, 0, 0));
    }

    /** Promise 3: "as for make()" */
    private static void makeLinkIsRefusedForANameThatIsThere() {
        Twins.state("makeLink() of the name of a key", Builds::rich, x -> x.makeLink(0, 1, 4));
        Twins.state("makeLink() of the name of a link", Builds::rich, x -> x.makeLink(0, 3, 1));
        Check.due("makeLink() of the name of one that was deleted", Builds.rich().makeLink(0, 2, 0), 5);
        Check.due("makeLink() of the name of its target", Builds.rich().makeLink(4, 1, 1), 5);
    }

    /** Promise 3: "as for make()" */
    private static void makeLinkIsRefusedForAFullList() {
        Twins.state("makeLink() for a ninth leaf", Builds::withEightLeaves, x -> x.makeLink(0, 9, 1));
        Twins.state("makeLink() in the longest list", Builds::withFullList, x -> x.makeLink(0, 9999, 0));
        int name = Builds.nameOfSum(1);
        Check.due("makeLink() in a leaf of three", Builds.withEightLeaves().makeLink(0, name, 1), 26);
    }

    /** Promise 3: "as for make()" */
    private static void makeLinkIsRefusedBehindEightyKeys() {
        Check.due("makeLink() of the 80th", Builds.chain(78).makeLink(0, 1, 78), 79);
        Twins.state("makeLink() of one more", () -> Builds.chain(79), x -> x.makeLink(0, 1, 79));
        Counted x = Builds.chain(78);
        x.makeLink(0, 1, 0);
        Check.throwsState("make() behind 80 keys, of which one is a link", () -> x.make(0, 2));
    }

    /** Promise 3: "as for make()" */
    private static void makeLinkIsRefusedWithoutRoom() {
        Twins.state("makeLink() with room for 5", () -> Builds.withRoom(5), x -> x.makeLink(1, 9, 0));
        Twins.state("makeLink() with room for 10", () -> Builds.withRoom(10), x -> x.makeLink(2, 9, 0));
        Twins.state("makeLink() with room for 19", () -> Builds.withRoom(19), x -> x.makeLink(0, 9, 0));
        Check.due("makeLink() with room for a key", Builds.withRoom(6).makeLink(1, 9, 0), 7);
        Check.due("makeLink() with room for a leaf, too", Builds.withRoom(11).makeLink(2, 9, 0), 7);
        Check.due("makeLink() with room for all", Builds.withRoom(20).makeLink(0, 9, 0), 7);
    }

    /**
     * Promise 9: "`key`: a key"
     * Promise 9: "Throws `IndexOutOfBoundsException` if there is no such key"
     */
    private static void followTakesKeysThatExist() {
        Twins.noSuchKey("follow()", Counted::follow);
        Counted x = Builds.chain(79);
        Check.due("follow() of the first key", x.follow(0), 0);
        Check.due("follow() of the last key", x.follow(79), 79);
    }

    /**
     * Promise 9: "Follows a key."
     * Promise 9: "Returns the key to which it leads, -1 if some target does not exist"
     */
    private static void followAnswersNothingIfATargetHasGone() {
        for (int gone = 1; gone <= 5; gone++) {
            Counted x = Builds.links(4);
            x.delete(gone);
            for (int link = gone + 1; link <= 5; link++) {
                Check.due("follow() of " + link + " when " + gone + " has gone", x.follow(link), -1);
            }
            for (int link = 1; link < gone; link++) {
                Check.due("follow() of " + link + " when " + gone + " has gone", x.follow(link), 1);
            }
        }
        Counted y = Builds.links(1);
        y.delete(1);
        Check.due("make() of the name that has gone", y.make(0, 0), 3);
        Check.due("follow(), as this is another key", y.follow(2), -1);
        y.crash();
        y.make(0, 0);
        y.makeLink(0, 1, 1);
        Check.due("follow() behind a crash, with the numbers as they were", y.follow(2), 1);
    }

    /** Promise 9: "or more than 4 links would be followed" */
    private static void followAnswersNothingForMoreThanFourLinks() {
        Counted x = Builds.links(6);
        Check.due("follow() by 4 links", x.follow(5), 1);
        Check.due("follow() by 5 links", x.follow(6), -1);
        Check.due("follow() by 6 links", x.follow(7), -1);
        x.delete(1);
        Check.due("follow() by 4 links, to nowhere", x.follow(5), -1);
        Check.due("follow() by 5 links, to nowhere", x.follow(6), -1);
    }

    /** Promise 5: "Deletes a key; links to it stay, and lead nowhere then." */
    private static void linksToADeletedKeyStay() {
        Counted x = Builds.links(2);
        Check.due("delete() of a target", x.delete(1), 6);
        Check.due("list(0)", x.list(0), 21);
        Check.due("find(0, 1)", x.find(0, 1), 2);
        Check.due("find(0, 2)", x.find(0, 2), 3);
        Check.due("follow() of the one", x.follow(2), -1);
        Check.due("follow() of the other", x.follow(3), -1);
        Check.throwsState("make() below a link that leads nowhere", () -> x.make(2, 0));
        Check.due("delete() of a link that leads nowhere", x.delete(2), 6);
        Check.due("follow() of a link to that", x.follow(3), -1);
        Check.due("delete() of the last one", x.delete(3), 11);
    }
}
