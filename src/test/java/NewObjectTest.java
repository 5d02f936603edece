/** Promise 1: a new object is a registry with the root alone. */
public final class NewObjectTest {
    public static void main(String[] args) {
        Counted x = new Counted();
        Check.due("list(0)", x.list(0), 0);
        Check.due("find(0, 0)", x.find(0, 0), -1);
        Check.throwsIndex("list(1)", () -> x.list(1));
        Check.throwsIndex("subkeyAt(0, 0)", () -> x.subkeyAt(0, 0));
        Check.throwsIndex("dropValue(0, 0)", () -> x.dropValue(0, 0));
        Check.due("follow(0)", x.follow(0), 0);
        Check.due("sharers(0)", x.sharers(0), 1);
        Check.due("sharers(1)", x.sharers(1), 0);
        Check.due("place(0)", x.place(0), 4);
        Check.sameFile("a new file", "4:6 10:2 12:-4 /1/0", x);
        Check.due("used()", x.used(), 8);
        Check.due("usedByTree()", x.usedByTree(), 8);
        Check.due("takeNotice()", x.takeNotice(), -1);
        Check.due("dirty()", x.dirty(), 0);
        Check.due("log(0)", x.log(0), 0);
        Check.due("log(1)", x.log(1), 0);
        Check.throwsState("flush()", x::flush);
        Check.due("watch(0, 1, false)", x.watch(0, 1, false), true);
        Check.due("setRights(0, 0)", x.setRights(0, 0), 0);
        objectsAreTheirOwn();
        Check.end("NewObjectTest");
    }

    private static void objectsAreTheirOwn() {
        Counted x = new Counted();
        Counted y = new Counted();
        x.make(0, 3);
        x.setValue(0, 1, 30, 1);
        x.watch(0, 7, true);
        Check.flushWhole(x);
        Check.sameFile("another object was used", "4:6 10:2 12:-4 /1/0", y);
        Check.due("log(1) of the other", y.log(1), 0);
        Check.due("make(0, 3) in the other", y.make(0, 3), 1);
        Check.due("takeNotice() of the other", y.takeNotice(), -1);
    }
}
