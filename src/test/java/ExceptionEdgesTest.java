/**
 * Which exception goes first where two could, and that a call that throws changes nothing. (That each
 * refused call, of whatever cause, changes nothing is looked at by Twins, in all tests of edges.)
 */
public final class ExceptionEdgesTest {
    public static void main(String[] args) {
        indexGoesAheadOfArgument();
        indexOfATargetGoesAheadOfArgument();
        indexOfAValueGoesAheadOfArgument();
        indexGoesAheadOfState();
        indexOfATargetGoesAheadOfState();
        argumentGoesAheadOfStateInMake();
        argumentGoesAheadOfStateInMakeLink();
        argumentGoesAheadOfStateInRename();
        argumentGoesAheadOfStateInSetValue();
        argumentGoesAheadOfStateWithoutRoom();
        argumentGoesAheadOfStateInWrite();
        allThreeAtOnceAreAnIndex();
        anIndexIsForKeysSubkeysValuesAndUnits();
        anArgumentIsForAnotherOutOfRange();
        aStateIsForACallThatIsNotPossibleNow();
        aRefusedCallChangesNothing();
        Check.end("ExceptionEdgesTest");
    }

    /**
     * Flushes and crashes: "If several apply, IndexOutOfBoundsException goes first, then
     *     IllegalArgumentException."
     */
    private static void indexGoesAheadOfArgument() {
        for (int key : new int[] {-1, 2, 5, 80, Integer.MAX_VALUE}) {
            Twins.index("make() of no key, name -1", Builds::rich, x -> x.make(key, -1));
            Twins.index("make() of no key, name 10000", Builds::rich, x -> x.make(key, 10000));
            Twins.index("makeLink() of no key, name 10000", Builds::rich, x -> x.makeLink(key, 10000, 0));
            Twins.index("rename() of no key, name -1", Builds::rich, x -> x.rename(key, -1));
            Twins.index("find() of no key, name 10000", Builds::rich, x -> x.find(key, 10000));
            Twins.index("setValue() of no key, name 100", Builds::rich, x -> x.setValue(key, 100, 0, 0));
            Twins.index("setValue() of no key, length 31", Builds::rich, x -> x.setValue(key, 0, 31, 0));
            Twins.index("resize() of no key, length 31", Builds::rich, x -> x.resize(key, 0, 31));
            Twins.index("setRights() of no key, rights 256", Builds::rich, x -> x.setRights(key, 256));
            Twins.index("watch() of no key, kinds 0", Builds::rich, x -> x.watch(key, 0, true) ? 1 : 0);
            Twins.index("watch() of no key, kinds 8", Builds::rich, x -> x.watch(key, 8, false) ? 1 : 0);
        }
    }

    /** Flushes and crashes: "IndexOutOfBoundsException goes first" */
    private static void indexOfATargetGoesAheadOfArgument() {
        Twins.index("makeLink() to no key, name -1", Builds::rich, x -> x.makeLink(0, -1, 5));
        Twins.index("makeLink() to no key, name 10000", Builds::rich, x -> x.makeLink(0, 10000, -1));
        Twins.index("makeLink() to one that was deleted, name -1", Builds::rich, x -> x.makeLink(1, -1, 2));
    }

    /** Flushes and crashes: "IndexOutOfBoundsException goes first" */
    private static void indexOfAValueGoesAheadOfArgument() {
        Twins.index("resize() of no value, length -1", Builds::rich, x -> x.resize(1, 7, -1));
        Twins.index("resize() of no value, length 31", Builds::rich, x -> x.resize(1, 7, 31));
        Twins.index("resize() of the name 100, length 31", Builds::rich, x -> x.resize(1, 100, 31));
        Twins.index("resize() of a link, length 31", Builds::rich, x -> x.resize(3, 0, 31));
        Twins.argument("resize() of a value, length 31", Builds::rich, x -> x.resize(1, 0, 31));
    }

    /** Flushes and crashes: "IndexOutOfBoundsException goes first" */
    private static void indexGoesAheadOfState() {
        Twins.index("make() of no key, behind 80 keys", () -> Builds.chain(79), x -> x.make(80, 0));
        Twins.index("makeLink() of no key, behind 80 keys", () -> Builds.chain(79), x -> x.makeLink(80, 0, 0));
        Twins.index("make() of no key, in a full file", () -> Builds.withRoom(0), x -> x.make(7, 0));
        Twins.index("setValue() of no key, in a full file", () -> Builds.withRoom(0), x -> x.setValue(7, 0, 30, 0));
        Twins.index("resize() of no value, in a full file", () -> Builds.withRoom(0), x -> x.resize(6, 1, 30));
        Twins.index("setRights() of no key, in a full file", () -> Builds.withRoom(0), x -> x.setRights(7, 1));
    }

    /** Flushes and crashes: "IndexOutOfBoundsException goes first" */
    private static void indexOfATargetGoesAheadOfState() {
        Twins.index("makeLink() below a link to no key", Builds::rich, x -> x.makeLink(3, 0, 5));
        Twins.index("makeLink() of a name that is there to no key", Builds::rich, x -> x.makeLink(0, 1, 2));
        Twins.index("makeLink() in a full list to no key", Builds::withFullList, x -> x.makeLink(0, 9999, 33));
        Twins.index("makeLink() behind 80 keys to no key", () -> Builds.chain(79), x -> x.makeLink(0, 1, 80));
        Twins.index("makeLink() in a full file to no key", () -> Builds.withRoom(0), x -> x.makeLink(1, 9, 7));
    }

    /** Flushes and crashes: "then IllegalArgumentException" */
    private static void argumentGoesAheadOfStateInMake() {
        for (int name : new int[] {-1, 10000}) {
            Twins.argument("make() below a link, name " + name, Builds::rich, x -> x.make(3, name));
            Twins.argument("make() in a full list, name " + name, Builds::withFullList, x -> x.make(0, name));
            Twins.argument("make() behind 80 keys, name " + name, () -> Builds.chain(79), x -> x.make(0, name));
            Twins.argument("make() in a full file, name " + name, () -> Builds.withRoom(0), x -> x.make(1, name));
        }
    }

    /** Flushes and crashes: "then IllegalArgumentException" */
    private static void argumentGoesAheadOfStateInMakeLink() {
        for (int name : new int[] {-1, 10000}) {
            Twins.argument("makeLink() below a link, name " + name, Builds::rich, x -> x.makeLink(3, name, 0));
            Twins.argument("makeLink() in a full list, name " + name, Builds::withFullList,
                    x -> x.makeLink(0, name, 1));
            Twins.argument("makeLink() behind 80 keys, name " + name, () -> Builds.chain(79),
                    x -> x.makeLink(0, name, 1));
            Twins.argument("makeLink() in a full file, name " + name, () -> Builds.withRoom(0),
                    x -> x.makeLink(1, name, 1));
        }
    }

    /** Flushes and crashes: "then IllegalArgumentException" */
    private static void argumentGoesAheadOfStateInRename() {
        for (int name : new int[] {-1, 10000}) {
            Twins.argument("rename() of the root, name " + name, Builds::rich, x -> x.rename(0, name));
            Twins.argument("rename() in a full list, name " + name, Builds::withFullList, x -> x.rename(1, name));
            Twins.argument("rename() in a full file, name " + name, () -> Builds.withRoom(0), x -> x.rename(1, name));
        }
    }

    /** Flushes and crashes: "then IllegalArgumentException" */
    private static void argumentGoesAheadOfStateInSetValue() {
        for (int name : new int[] {-1, 100}) {
            Twins.argument("setValue() of a link, name " + name, Builds::rich, x -> x.setValue(3, name, 0, 0));
            Twins.argument("setValue() of a ninth, name " + name, () -> Builds.withValues(8),
                    x -> x.setValue(0, name, 0, 0));
        }
        for (int length : new int[] {-1, 31}) {
            Twins.argument("setValue() of a link, length " + length, Builds::rich, x -> x.setValue(3, 0, length, 0));
            Twins.argument("setValue() of a ninth, length " + length, () -> Builds.withValues(8),
                    x -> x.setValue(0, 9, length, 0));
        }
    }

    /** Flushes and crashes: "then IllegalArgumentException" */
    private static void argumentGoesAheadOfStateWithoutRoom() {
        Twins.argument("setValue() in a full file, name 100", () -> Builds.withRoom(0), x -> x.setValue(6, 100, 30, 0));
        Twins.argument("setValue() in a full file, length 31", () -> Builds.withRoom(0), x -> x.setValue(6, 1, 31, 0));
        Twins.argument("resize() in a full file, length 31", () -> Builds.withRoom(0), x -> x.resize(6, 0, 31));
        Twins.argument("setRights() in a full file, rights 256", () -> Builds.withRoom(0), x -> x.setRights(6, 256));
        Twins.argument("setRights() in a full file, rights -1", () -> Builds.withRoom(0), x -> x.setRights(6, -1));
    }

    /** Flushes and crashes: "then IllegalArgumentException" */
    private static void argumentGoesAheadOfStateInWrite() {
        for (int writes : new int[] {Integer.MIN_VALUE, 0, 201, Integer.MAX_VALUE}) {
            Twins.argument("write(" + writes + ") when none is running", () -> Builds.chain(2), x -> x.write(writes));
        }
    }

    /** Flushes and crashes: "If several apply" */
    private static void allThreeAtOnceAreAnIndex() {
        Twins.index("makeLink() below a link, name -1, to no key", Builds::rich, x -> x.makeLink(3, -1, 5));
        Twins.index("makeLink() behind 80 keys, name 10000, to no key", () -> Builds.chain(79),
                x -> x.makeLink(0, 10000, 80));
        Twins.index("makeLink() in a full file, name 10000, of no key", () -> Builds.withRoom(0),
                x -> x.makeLink(7, 10000, 0));
        Twins.index("resize() in a full file, of no value, length 31", () -> Builds.withRoom(0),
                x -> x.resize(6, 1, 31));
        Twins.index("setValue() in a full file, of no key, length 31", () -> Builds.withRoom(0),
                x -> x.setValue(7, 100, 31, 0));
    }

    /**
     * Flushes and crashes: "IndexOutOfBoundsException is thrown for a key, subkey, value or unit that
     *     does not exist"
     */
    private static void anIndexIsForKeysSubkeysValuesAndUnits() {
        Twins.index("a key", Builds::rich, x -> x.place(5));
        Twins.index("a subkey", Builds::rich, x -> x.subkeyAt(1, 1));
        Twins.index("a value", Builds::rich, x -> x.dropValue(0, 0));
        Twins.index("a unit of a value", Builds::rich, x -> x.unit(0, 5, 9));
        Twins.index("a unit of the file", Builds::rich, x -> x.cell(16 * 64));
    }

    /** Flushes and crashes: "IllegalArgumentException for another argument out of range" */
    private static void anArgumentIsForAnotherOutOfRange() {
        Twins.argument("a name of a key", Builds::rich, x -> x.make(0, 10000));
        Twins.argument("a name of a value", Builds::rich, x -> x.setValue(0, 100, 0, 0));
        Twins.argument("a length", Builds::rich, x -> x.resize(0, 5, 31));
        Twins.argument("rights", Builds::rich, x -> x.sharers(256));
        Twins.argument("kinds", Builds::rich, x -> x.watch(0, 8, true) ? 1 : 0);
        Twins.argument("writes", Builds::rich, x -> x.write(201));
        Twins.argument("a log", Builds::rich, x -> x.log(2));
    }

    /** Flushes and crashes: "and IllegalStateException if a call is not possible now" */
    private static void aStateIsForACallThatIsNotPossibleNow() {
        // The same call is possible when what was in its way has gone.
        Counted x = Builds.rich();
        Check.throwsState("delete(1)", () -> x.delete(1));
        x.delete(4);
        Check.due("delete(1) without subkeys", x.delete(1) > 0, true);
        Check.throwsState("flush()", x::flush);
        x.write(200);
        Check.due("flush() when none is running", x.flush() > 0, true);
        Counted y = Builds.withRoom(5);
        Check.throwsState("make(1, 9)", () -> y.make(1, 9));
        y.resize(6, 0, 24);
        Check.due("make(1, 9) with room", y.make(1, 9), 7);
    }

    /** Flushes and crashes: "A call that throws an exception changes nothing." */
    private static void aRefusedCallChangesNothing() {
        // All refusals on one object; what is looked at by Twins for each, is looked at once for all here.
        Counted x = Builds.rich();
        Counted y = Builds.rich();
        Check.throwsState("make()", () -> x.make(3, 0));
        Check.throwsState("makeLink()", () -> x.makeLink(0, 1, 0));
        Check.throwsState("rename()", () -> x.rename(1, 3));
        Check.throwsState("delete()", () -> x.delete(1));
        Check.throwsArgument("find()", () -> x.find(0, -1));
        Check.throwsIndex("subkeyAt()", () -> x.subkeyAt(0, 2));
        Check.throwsIndex("list()", () -> x.list(2));
        Check.throwsIndex("follow()", () -> x.follow(2));
        Check.throwsState("setValue()", () -> x.setValue(3, 0, 0, 0));
        Check.throwsArgument("resize()", () -> x.resize(1, 0, 31));
        Check.throwsIndex("dropValue()", () -> x.dropValue(1, 5));
        Check.throwsIndex("unit()", () -> x.unit(1, 0, 20));
        Check.throwsArgument("setRights()", () -> x.setRights(4, 256));
        Check.throwsArgument("sharers()", () -> x.sharers(-1));
        Check.throwsIndex("cell()", () -> x.cell(-1));
        Check.throwsIndex("place()", () -> x.place(2));
        Check.throwsArgument("watch()", () -> x.watch(0, 0, false) ? 1 : 0);
        Check.throwsState("flush()", x::flush);
        Check.throwsArgument("write()", () -> x.write(0));
        Check.throwsArgument("log()", () -> x.log(2));
        Check.sameFile("these were refused", Check.fileOf(y), x);
        for (int i = 0; i < 3; i++) {
            Check.due("takeNotice()", x.takeNotice(), y.takeNotice());
        }
        Check.due("write(1)", x.write(1), y.write(1));
        Check.due("make() of the next key", x.make(0, 2), 5);
        Check.due("crash()", x.crash(), y.crash());
        Check.sameFile("a crash behind these", Check.fileOf(y), x);
    }
}
