/** Promises 3 and 9: makeLink, follow. */
public final class LinksTest {
    public static void main(String[] args) {
        makeLinkMakesAKey();
        makeLinkRefusesWhatItMust();
        linksHaveNeitherSubkeysNorValues();
        followGoesFourLinksAtMost();
        followAnswersNothingForALostTarget();
        followRefusesWhatItMust();
        Check.end("LinksTest");
    }

    private static void makeLinkMakesAKey() {
        Counted x = new Counted();
        x.make(0, 1);
        Check.due("makeLink(1, 2, 0)", x.makeLink(1, 2, 0), 2);
        Check.due("a link to a link", x.makeLink(0, 9999, 2), 3);
        Check.due("a link to its own parent", x.makeLink(0, 0, 0), 4);
        Check.due("find(1, 2)", x.find(1, 2), 2);
        Check.due("the cell of a link", x.cell(x.place(2)), 6);
        Check.due("used()", x.used(), 8 + 4 * 6 + 2 * 5);
        Check.due("usedByTree()", x.usedByTree(), 8 + 4 * 6 + 2 * 5);
        Check.due("sharers(0)", x.sharers(0), 5);
        Check.due("setRights() of a link", x.setRights(2, 3), 0);
        Check.due("rename() of a link", x.rename(2, 4), 2);
        Check.due("delete() of a link", x.delete(2), 6 + 2 + 5);
    }

    private static void makeLinkRefusesWhatItMust() {
        Counted x = new Counted();
        x.make(0, 1);
        x.makeLink(0, 2, 1);
        String before = Check.fileOf(x);
        Check.throwsIndex("makeLink(3, 0, 0)", () -> x.makeLink(3, 0, 0));
        Check.throwsIndex("makeLink(-1, 0, 0)", () -> x.makeLink(-1, 0, 0));
        Check.throwsIndex("makeLink(0, 0, 3), as there is no 3 yet", () -> x.makeLink(0, 0, 3));
        Check.throwsIndex("makeLink(0, 0, -1)", () -> x.makeLink(0, 0, -1));
        Check.throwsIndex("makeLink(0, 0, MAX)", () -> x.makeLink(0, 0, Integer.MAX_VALUE));
        Check.throwsIndex("makeLink(0, -1, 3)", () -> x.makeLink(0, -1, 3));
        Check.throwsIndex("makeLink(link, 0, 3)", () -> x.makeLink(2, 0, 3));
        Check.throwsArgument("makeLink(0, -1, 0)", () -> x.makeLink(0, -1, 0));
        Check.throwsArgument("makeLink(0, 10000, 0)", () -> x.makeLink(0, 10000, 0));
        Check.throwsArgument("makeLink(link, 10000, 0)", () -> x.makeLink(2, 10000, 0));
        Check.throwsState("makeLink(link, 0, 0)", () -> x.makeLink(2, 0, 0));
        Check.throwsState("makeLink(0, 1, 0)", () -> x.makeLink(0, 1, 0));
        Check.throwsState("makeLink(0, 2, 0)", () -> x.makeLink(0, 2, 0));
        Check.sameFile("makeLink() threw", before, x);
        Check.due("the next key", x.makeLink(0, 3, 0), 3);
    }

    private static void linksHaveNeitherSubkeysNorValues() {
        Counted x = new Counted();
        x.makeLink(0, 1, 0);
        Check.throwsState("make(link, 0)", () -> x.make(1, 0));
        Check.throwsState("setValue(link, 0, 0, 0)", () -> x.setValue(1, 0, 0, 0));
        Check.due("list(link)", x.list(1), 0);
        Check.due("find(link, 1)", x.find(1, 1), -1);
        Check.throwsIndex("resize(link, 0, 0)", () -> x.resize(1, 0, 0));
        Check.throwsIndex("dropValue(link, 0)", () -> x.dropValue(1, 0));
    }

    private static void followGoesFourLinksAtMost() {
        Counted x = new Counted();
        x.make(0, 0);
        Check.due("follow() of a key that is no link", x.follow(1), 1);
        for (int links = 1; links <= 6; links++) {
            int link = x.makeLink(0, links, links);
            Check.due("follow() by " + links + " links", x.follow(link), links <= 4 ? 1 : -1);
        }
        Check.due("a link to the root", x.follow(x.makeLink(1, 0, 0)), 0);
    }

    private static void followAnswersNothingForALostTarget() {
        Counted x = new Counted();
        x.make(0, 0);
        x.makeLink(0, 1, 1);
        x.makeLink(0, 2, 2);
        x.delete(1);
        Check.due("follow(2), whose target has gone", x.follow(2), -1);
        Check.due("follow(3), by way of 2", x.follow(3), -1);
        x.make(0, 0);
        Check.due("the name again is another key", x.follow(2), -1);
        x.delete(2);
        Check.due("follow(3), whose target has gone", x.follow(3), -1);
        Check.due("links to it stay", x.find(0, 2), 3);
        for (int links = 4; links <= 7; links++) {
            x.makeLink(0, links, links == 4 ? 3 : links);
        }
        Check.due("follow() of a long row without an end", x.follow(8), -1);
    }

    private static void followRefusesWhatItMust() {
        Counted x = new Counted();
        x.make(0, 0);
        x.delete(1);
        Check.throwsIndex("follow(1), which was deleted", () -> x.follow(1));
        Check.throwsIndex("follow(2)", () -> x.follow(2));
        Check.throwsIndex("follow(-1)", () -> x.follow(-1));
        Check.throwsIndex("follow(MIN)", () -> x.follow(Integer.MIN_VALUE));
    }
}
