/** Promises 23 to 27: dirty, flush, write, log, crash. */
public final class FlushesTest {
    public static void main(String[] args) {
        dirtyTellsOfKeys();
        dirtyTellsOfLists();
        dirtyTellsOfAnIndexThatStays();
        dirtyTellsOfValues();
        dirtyTellsOfRights();
        dirtyDoesNotTellOfFreeUnits();
        flushTellsItsWrites();
        flushRefusesWhatItMust();
        writeTellsWhatIsLeft();
        writeRefusesWhatItMust();
        logsAreUsedInTurn();
        logRefusesWhatItMust();
        crashWithoutAFlushStartsAnew();
        crashBreaksAnUnsealedFlushOff();
        crashCountsASealedFlushAsWhole();
        crashAtEachWrite();
        crashBringsBackAllOfTheRegistry();
        changesBehindTheBeginningAreOfTheNextFlush();
        Check.end("FlushesTest");
    }

    /**
     * A registry that was flushed: the root has the value 1 of length 30, which fills the units 12 to
     * 49, with its cell at 50 and the value list at 53; then the key 1 at 58, with a leaf at 64; then
     * the key 2 below it at 69, with a leaf at 75, up to the end of the file.
     */
    private static Counted flushed() {
        Counted x = new Counted();
        x.setValue(0, 1, 30, 0);
        x.make(0, 1);
        x.make(1, 2);
        Check.flushWhole(x);
        Check.due("place(1)", x.place(1), 58);
        Check.due("place(2)", x.place(2), 69);
        Check.due("cell(75)", x.cell(75), 5);
        Check.due("sectors()", x.sectors(), 5);
        return x;
    }

    /** The sectors as a set. */
    private static long set(int... sectors) {
        long all = 0;
        for (int sector : sectors) {
            all |= 1L << sector;
        }
        return all;
    }

    private static void dirtyIs(String when, Counted x, long due) {
        Check.due("dirty() " + when, x.dirty(), due);
        if (due != 0) {
            Check.flushWhole(x);
        }
        Check.due("dirty() behind a flush", x.dirty(), 0);
    }

    private static void dirtyTellsOfKeys() {
        Counted x = flushed();
        dirtyIs("behind a flush", x, 0);
        // The key's cell 80 to 85 with the leaf behind it, its parent at 69, the rights at 10.
        x.make(2, 0);
        dirtyIs("behind make()", x, set(0, 4, 5));
        // The key at 80, its leaf at 86, its parent at 69.
        x.rename(3, 1);
        dirtyIs("behind rename()", x, set(4, 5));
        x.delete(3);
        dirtyIs("behind delete()", x, set(0, 4, 5));
        x.find(1, 2);
        x.subkeyAt(1, 0);
        x.list(1);
        x.follow(1);
        x.unit(0, 1, 0);
        x.usedByTree();
        x.watch(0, 7, true);
        dirtyIs("behind calls that change nothing", x, 0);
        Check.throwsState("rename(2, 2)", () -> x.rename(2, 2));
        Check.throwsState("make(1, 2)", () -> x.make(1, 2));
        dirtyIs("behind calls that threw", x, 0);
    }

    private static void dirtyTellsOfLists() {
        Counted x = flushed();
        // Names with the sums 0, 1, .. below the key 2: its leaf is at 86, the keys lie around it.
        for (int sum = 0; sum < 4; sum++) {
            x.make(2, 55 * sum % 64);
        }
        Check.due("place(6)", x.place(6), 103);
        Check.flushWhole(x);
        x.make(2, 55 * 10 % 64);
        // The key 7 at 109, the index at 115, the new leaf at 124; the parent, the leaf, the rights.
        Check.due("place(7)", x.place(7), 109);
        Check.due("cell(115)", x.cell(115), 9);
        Check.due("cell(124)", x.cell(124), 5);
        dirtyIs("behind a split", x, set(0, 4, 5, 6, 7, 8));
        x.delete(7);
        dirtyIs("behind delete() in the second leaf", x, set(0, 4, 6, 7, 8));
        x.rename(6, 55 * 11 % 64);
        // The key 6 at 103, its leaf at 124, the parent.
        dirtyIs("behind rename() in the second leaf", x, set(4, 6, 7, 8));
        x.delete(6);
        // The leaf and the index are given back, the key too.
        dirtyIs("behind delete() of the last of a leaf", x, set(0, 4, 6, 7, 8));
        x.rename(4, 55 * 12 % 64);
        Check.due("list(2)", x.list(2), 31);
        // The key 4 at 91 to 96, the leaf at 86, the parent.
        dirtyIs("behind rename() in the only leaf", x, set(4, 5, 6));
    }

    private static void dirtyTellsOfAnIndexThatStays() {
        Counted x = flushed();
        for (int sum = 0; sum < 5; sum++) {
            x.make(2, 55 * sum % 64);
        }
        // Names with the sum 0: the leaf at 86 has four entries then, and is split by the next.
        x.make(2, 64);
        Check.flushWhole(x);
        x.make(2, 128);
        Check.due("list(2)", x.list(2), 73);
        Check.due("place(9)", x.place(9), 135);
        // The key 9, the new leaf at 141, the leaf at 86, the index at 115, the parent, the rights.
        dirtyIs("behind a split in a list with an index", x, set(0, 4, 5, 7, 8, 9));
        x.delete(5);
        // The key at 97 to 102, its leaf at 141 to 145.
        dirtyIs("behind delete() in a leaf that stays", x, set(0, 4, 6, 8, 9));
        Check.due("delete(4)", x.delete(4), 11);
        // The key at 91 to 96, its leaf at 141 to 145, and the index, which loses this.
        dirtyIs("behind delete() of a leaf beside others", x, set(0, 4, 5, 6, 7, 8, 9));
    }

    private static void dirtyTellsOfValues() {
        Counted x = flushed();
        x.setValue(0, 1, 30, 1);
        // The pieces were at 12 to 49, are at 80 to 117; the cell is at 50, the key at 4.
        dirtyIs("behind setValue() of a value that is there", x, set(0, 1, 2, 3, 5, 6, 7));
        x.resize(0, 1, 30);
        dirtyIs("behind resize() to the same length", x, set(0, 3));
        x.resize(0, 1, 24);
        // The last piece was at 110 to 117.
        dirtyIs("behind resize()", x, set(0, 3, 6, 7));
        x.resize(0, 1, 1);
        dirtyIs("behind resize() to no piece", x, set(0, 3, 5, 6));
        x.setValue(0, 1, 0, 1);
        dirtyIs("behind setValue() without pieces", x, set(0, 3));
        x.setValue(0, 2, 0, 0);
        // The new cell is at 12, the value list at 53.
        dirtyIs("behind setValue() of a new value", x, set(0, 3));
        x.setValue(2, 5, 0, 0);
        // Got are 15 to 17, and 18 to 22 for the list; the key is at 69.
        dirtyIs("behind setValue() of a first value", x, set(0, 1, 4));
        x.dropValue(0, 1);
        // The cell at 50, the value list at 53, the key at 4.
        dirtyIs("behind dropValue()", x, set(0, 3));
        x.dropValue(2, 5);
        dirtyIs("behind dropValue() of the last one", x, set(0, 1, 4));
        for (int name = 3; name <= 5; name++) {
            x.setValue(0, name, 0, 0);
        }
        Check.flushWhole(x);
        x.setValue(0, 6, 0, 0);
        // Cells are at 12 to 23, the 5th at 24 to 26; the list was at 53, is at 27 to 35.
        Check.due("cell(27)", x.cell(27), 9);
        dirtyIs("behind setValue() of the 5th", x, set(0, 1, 2, 3));
        Counted y = flushed();
        y.setValue(0, 2, 0, 0);
        // The new cell is at 80, the value list at 53, the key at 4.
        dirtyIs("behind setValue() of a second value", y, set(0, 3, 5));
        y.dropValue(0, 2);
        dirtyIs("behind dropValue() of the second value", y, set(0, 3, 5));
    }

    private static void dirtyTellsOfRights() {
        Counted x = flushed();
        x.setRights(2, 7);
        // Got is 80; the count at 10 is less, the key is at 69.
        dirtyIs("behind setRights()", x, set(0, 4, 5));
        x.setRights(2, 7);
        dirtyIs("behind setRights() to the same", x, 0);
        x.setRights(1, 7);
        // The key is at 58 to 63.
        dirtyIs("behind setRights() to those of another", x, set(0, 3, 5));
        x.setRights(2, 0);
        dirtyIs("behind setRights() back", x, set(0, 4, 5));
        x.setRights(1, 0);
        dirtyIs("behind setRights() with a cell given back", x, set(0, 3, 5));
        x.setRights(2, 7);
        Check.flushWhole(x);
        x.make(2, 0);
        // The key at 82, its leaf at 88; the parent at 69; the rights at 80, and not at 10.
        dirtyIs("behind make() with other rights", x, set(4, 5));
        x.delete(3);
        dirtyIs("behind delete() with other rights", x, set(4, 5));
    }

    private static void dirtyDoesNotTellOfFreeUnits() {
        Counted x = flushed();
        x.dropValue(0, 1);
        Check.flushWhole(x);
        Check.due("cell(12)", x.cell(12), -46);
        x.setValue(0, 2, 0, 0);
        // Got are 12 to 14 and 15 to 19; the rest up to 57 stays free.
        dirtyIs("of the beginning of a free cell", x, set(0, 1));
        x.setValue(0, 3, 0, 0);
        dirtyIs("of a cell and the list", x, set(0, 1));
        x.dropValue(0, 3);
        // Given back are 20 to 22, joined with all up to 57.
        dirtyIs("of a cell that is joined", x, set(0, 1));
        Counted y = new Counted();
        y.setValue(0, 0, 0, 0);
        Check.flushWhole(y);
        y.setValue(0, 1, 8, 0);
        // Got are 20 to 29 and 30 to 32, in a file that has grown by the units 32 to 47.
        Check.due("sectors()", y.sectors(), 3);
        dirtyIs("of a file that has grown", y, set(0, 1, 2));
        y.setValue(0, 1, 0, 0);
        Check.flushWhole(y);
        y.setValue(0, 2, 5, 0);
        // Got are 20 to 26 and 27 to 29.
        dirtyIs("of no sector beside", y, set(0, 1));
    }

    private static void flushTellsItsWrites() {
        Counted x = new Counted();
        x.setRights(0, 1);
        Check.due("flush() of 1 sector", x.flush(), 6);
        Check.due("dirty() behind flush()", x.dirty(), 0);
        x.write(200);
        x.make(0, 0);
        x.setValue(0, 0, 30, 0);
        int dirty = Long.bitCount(x.dirty());
        Check.due("flush() of more sectors", x.flush(), 2 * dirty + 4);
        x.write(200);
        x.make(1, 0);
        x.crash();
        x.make(1, 0);
        // The parent lies at 14 to 19, the key at 71 to 76, its leaf at 77 to 81, the rights at 12.
        Check.due("a flush behind a crash", x.flush(), 2 * 4 + 4);
    }

    private static void flushRefusesWhatItMust() {
        Counted x = new Counted();
        Check.throwsState("flush() of a new registry", x::flush);
        x.make(0, 0);
        Check.due("flush()", x.flush(), 8);
        Check.throwsState("flush() while one is running", x::flush);
        x.make(0, 1);
        Check.throwsState("flush() while one is running, with dirty sectors", x::flush);
        Check.due("the one that is running goes on", x.write(7), 1);
        Check.throwsState("flush() ahead of the last write", x::flush);
        Check.due("dirty() is as it was", x.dirty(), set(0, 1));
        x.write(1);
        x.flush();
        x.write(200);
        Check.throwsState("flush() when no sector is dirty", x::flush);
        x.make(0, 2);
        x.crash();
        Check.throwsState("flush() behind a crash", x::flush);
    }

    private static void writeTellsWhatIsLeft() {
        Counted x = new Counted();
        x.make(0, 0);
        x.flush();
        Check.due("write(1)", x.write(1), 7);
        Check.due("write(3)", x.write(3), 4);
        Check.due("write(4)", x.write(4), 0);
        x.make(0, 1);
        x.flush();
        Check.due("write(200), more than there are", x.write(200), 0);
        Check.throwsState("write(1) behind the last", () -> x.write(1));
    }

    private static void writeRefusesWhatItMust() {
        Counted x = new Counted();
        Check.throwsState("write(1) without a flush", () -> x.write(1));
        Check.throwsState("write(200) without a flush", () -> x.write(200));
        Check.throwsArgument("write(0) without a flush", () -> x.write(0));
        Check.throwsArgument("write(201) without a flush", () -> x.write(201));
        x.make(0, 0);
        x.flush();
        Check.throwsArgument("write(0)", () -> x.write(0));
        Check.throwsArgument("write(-1)", () -> x.write(-1));
        Check.throwsArgument("write(201)", () -> x.write(201));
        Check.throwsArgument("write(MAX)", () -> x.write(Integer.MAX_VALUE));
        Check.throwsArgument("write(MIN)", () -> x.write(Integer.MIN_VALUE));
        Check.due("write(1) behind those that threw", x.write(1), 7);
        x.crash();
        Check.throwsState("write(1) behind a crash", () -> x.write(1));
    }

    private static void logsAre(String when, Counted x, int log0, int log1) {
        Check.due("log(0) " + when, x.log(0), log0);
        Check.due("log(1) " + when, x.log(1), log1);
    }

    private static void logsAreUsedInTurn() {
        Counted x = new Counted();
        logsAre("at first", x, 0, 0);
        for (int number = 1; number <= 4; number++) {
            x.rename(x.make(0, number), number + 10);
            int before = number - 2;
            int held = Math.max(0, before);
            int sectors = (x.flush() - 4) / 2;
            logsAreFor("behind flush()", x, number, held);
            for (int write = 1; write <= 2 * sectors + 4; write++) {
                x.write(1);
                logsAreFor("behind write " + write, x, number, write < sectors + 2 ? 0 : number);
            }
        }
        logsAre("at last", x, 4, 3);
    }

    private static void logsAreFor(String when, Counted x, int number, int held) {
        Check.due("log() of flush " + number + " " + when, x.log(number % 2), held);
        Check.due("the other log " + when, x.log(1 - number % 2), number - 1);
    }

    private static void logRefusesWhatItMust() {
        Counted x = new Counted();
        Check.throwsArgument("log(-1)", () -> x.log(-1));
        Check.throwsArgument("log(2)", () -> x.log(2));
        Check.throwsArgument("log(MAX)", () -> x.log(Integer.MAX_VALUE));
        Check.throwsArgument("log(MIN)", () -> x.log(Integer.MIN_VALUE));
    }

    private static void crashWithoutAFlushStartsAnew() {
        Counted x = new Counted();
        Check.due("crash() of a new registry", x.crash(), 0);
        x.make(0, 0);
        x.setRights(0, 5);
        x.setValue(0, 0, 30, 0);
        Check.due("crash()", x.crash(), 0);
        Check.sameFile("a crash without a flush", "4:6 10:2 12:-4 /1/0", x);
        Check.due("sharers(0)", x.sharers(0), 1);
        Check.due("sharers(5)", x.sharers(5), 0);
        Check.throwsIndex("unit(0, 0, 0)", () -> x.unit(0, 0, 0));
        Check.throwsIndex("list(1)", () -> x.list(1));
        Check.due("the next key is as it was", x.make(0, 9), 1);
    }

    private static void crashBreaksAnUnsealedFlushOff() {
        Counted x = new Counted();
        x.make(0, 1);
        Check.flushWhole(x);
        x.make(0, 2);
        Check.flushWhole(x);
        x.make(0, 3);
        x.flush();
        Check.due("crash() ahead of the first write", x.crash(), 2);
        logsAre("behind a crash ahead of the first write", x, 2, 1);
        Check.due("list(0)", x.list(0), 21);
        Check.due("dirty()", x.dirty(), 0);
        x.make(0, 4);
        x.flush();
        x.write(1);
        Check.due("crash() behind the first write", x.crash(), 2);
        logsAre("behind a crash behind the first write", x, 2, 0);
        Check.due("find(0, 4)", x.find(0, 4), -1);
        Check.due("make(0, 5)", x.make(0, 5), 3);
        int writes = x.flush();
        x.write(writes / 2 - 1);
        Check.due("crash() ahead of the seal", x.crash(), 2);
        logsAre("behind a crash ahead of the seal", x, 2, 0);
        Check.due("find(0, 5)", x.find(0, 5), -1);
        x.make(0, 6);
        Check.flushWhole(x);
        logsAre("behind the flush 3, at last", x, 2, 3);
        Check.due("crash() behind it", x.crash(), 3);
        Check.due("find(0, 6)", x.find(0, 6), 3);
    }

    private static void crashCountsASealedFlushAsWhole() {
        Counted x = new Counted();
        x.make(0, 1);
        int writes = x.flush();
        x.make(0, 2);
        x.write(writes / 2);
        Check.due("crash() behind the seal", x.crash(), 1);
        logsAre("behind a crash behind the seal", x, 0, 1);
        Check.due("list(0)", x.list(0), 11);
        Check.due("make(0, 3)", x.make(0, 3), 2);
        writes = x.flush();
        x.write(writes - 1);
        x.make(0, 4);
        Check.due("crash() ahead of the last write", x.crash(), 2);
        logsAre("behind a crash ahead of the last write", x, 2, 1);
        Check.due("list(0)", x.list(0), 21);
        Check.due("crash() again", x.crash(), 2);
        Check.due("list(0) again", x.list(0), 21);
        Check.throwsState("write(1)", () -> x.write(1));
    }

    private static void crashAtEachWrite() {
        for (int write = 0; write <= 8; write++) {
            Counted x = new Counted();
            x.make(0, 1);
            Check.due("flush()", x.flush(), 8);
            if (write > 0) {
                x.write(write);
            }
            x.delete(1);
            boolean isSealed = write >= 4;
            Check.due("crash() behind write " + write, x.crash(), isSealed ? 1 : 0);
            Check.due("log(1) behind write " + write, x.log(1), isSealed ? 1 : 0);
            Check.due("list(0) behind write " + write, x.list(0), isSealed ? 11 : 0);
            Check.due("sectors() behind write " + write, x.sectors(), isSealed ? 2 : 1);
            Check.due("sharers(0) behind write " + write, x.sharers(0), isSealed ? 2 : 1);
            Check.due("the next key behind write " + write, x.make(0, 7), isSealed ? 2 : 1);
        }
    }

    private static void crashBringsBackAllOfTheRegistry() {
        Counted x = new Counted();
        for (int name = 0; name < 6; name++) {
            x.make(0, name);
        }
        x.makeLink(1, 0, 2);
        x.setValue(1, 5, 30, 3);
        x.setRights(2, 9);
        x.setRights(3, 255);
        Check.flushWhole(x);
        String before = Check.fileOf(x);
        x.rename(1, 100);
        x.resize(1, 5, 2);
        x.setValue(1, 5, 3, 8);
        x.setValue(1, 6, 30, 8);
        x.delete(7);
        x.delete(2);
        x.setRights(1, 200);
        x.setRights(3, 0);
        x.make(3, 0);
        Check.due("crash()", x.crash(), 1);
        Check.sameFile("a crash", before, x);
        Check.due("list(0)", x.list(0), 62);
        Check.due("find(0, 0)", x.find(0, 0), 1);
        Check.due("follow(7)", x.follow(7), 2);
        Check.due("unit(1, 5, 29)", x.unit(1, 5, 29), 93 + 29 * 17);
        Check.throwsIndex("unit(1, 6, 0)", () -> x.unit(1, 6, 0));
        Check.due("sharers(9)", x.sharers(9), 1);
        Check.due("sharers(255)", x.sharers(255), 1);
        Check.due("sharers(200)", x.sharers(200), 0);
        Check.due("usedByTree()", x.usedByTree(), x.used());
        Check.due("the next key", x.make(3, 1), 8);
    }

    private static void changesBehindTheBeginningAreOfTheNextFlush() {
        Counted x = new Counted();
        x.make(0, 1);
        x.flush();
        x.make(0, 2);
        Check.due("dirty() while a flush is running", x.dirty(), set(0, 1));
        x.write(200);
        Check.due("dirty() behind it", x.dirty(), set(0, 1));
        Check.due("list(0)", x.list(0), 21);
        Check.due("crash()", x.crash(), 1);
        Check.due("list(0) behind crash()", x.list(0), 11);
        x.make(0, 2);
        x.flush();
        x.make(0, 3);
        x.write(200);
        x.flush();
        x.write(200);
        Check.due("crash() behind two flushes", x.crash(), 3);
        Check.due("list(0) behind two flushes", x.list(0), 31);
    }
}
