/** The edges of values, and of the promises 10 to 13: setValue, resize, dropValue, unit. */
public final class ValueEdgesTest {
    public static void main(String[] args) {
        aKeyHasEightValuesAtMost();
        namesAreZeroToNinetyNine();
        seedsAreAnyInt();
        lengthsAreZeroToThirty();
        unitsGoRound();
        aLengthUpToOneLiesInTheCell();
        piecesAreOfEightUnitsAndTheRest();
        theListIsLongerFromFiveValuesOn();
        theLongerListStaysWhileThereAreValues();
        theListIsGivenBackWithTheLastValue();
        settingNeedsPiecesCellAndList();
        settingAnewNeedsPiecesAlone();
        settingAnewGivesBackThePieces();
        settingTheFifthGivesBackTheList();
        resizingKeepsPiecesOfTheSameUnits();
        resizingKeepsFromTheFirstPieceOn();
        resizingNeedsTheOthersFirst();
        resizingToTheSameLengthKeepsAll();
        droppingGivesBackPiecesCellAndList();
        setValueTakesKeysThatExist();
        setValueTakesNamesInRange();
        setValueTakesLengthsInRange();
        setValueTakesAnySeed();
        setValueAnswersOneToEight();
        setValueIsRefusedForALink();
        setValueIsRefusedForANinthValue();
        setValueIsRefusedWithoutRoom();
        resizeTakesKeysAndValuesThatExist();
        resizeTakesLengthsInRange();
        resizeAnswersTheLengthBefore();
        resizeIsRefusedWithoutRoom();
        dropValueTakesKeysAndValuesThatExist();
        dropValueAnswersTheLeastAndTheMost();
        unitTakesKeysAndValuesThatExist();
        unitTakesUnitsOfTheValue();
        unitAnswersTheNumber();
        Check.end("ValueEdgesTest");
    }

    // ---- values

    /** Values: "A key has at most 8 values" */
    private static void aKeyHasEightValuesAtMost() {
        Counted x = new Counted();
        for (int name = 0; name < 8; name++) {
            Check.due("setValue() of the value " + name, x.setValue(0, 11 * name, 0, 0), name + 1);
        }
        Check.throwsState("setValue() of a ninth", () -> x.setValue(0, 99, 0, 0));
        x.make(0, 0);
        Check.due("setValue() of another key", x.setValue(1, 99, 0, 0), 1);
        x.dropValue(0, 33);
        Check.due("setValue() when one was dropped", x.setValue(0, 99, 0, 0), 8);
        Check.throwsState("setValue() of a ninth again", () -> x.setValue(0, 33, 0, 0));
    }

    /** Values: "each with a name, 0 to 99" */
    private static void namesAreZeroToNinetyNine() {
        Counted x = new Counted();
        Check.due("setValue(0, 0, 1, 1)", x.setValue(0, 0, 1, 1), 1);
        Check.due("setValue(0, 99, 1, 2)", x.setValue(0, 99, 1, 2), 2);
        Check.due("unit(0, 0, 0)", x.unit(0, 0, 0), 31);
        Check.due("unit(0, 99, 0)", x.unit(0, 99, 0), 62);
        Check.throwsArgument("setValue(0, 100, 1, 3)", () -> x.setValue(0, 100, 1, 3));
        Check.throwsArgument("setValue(0, -1, 1, 3)", () -> x.setValue(0, -1, 1, 3));
    }

    /** Values: "a seed, an int" */
    private static void seedsAreAnyInt() {
        Counted x = new Counted();
        x.setValue(0, 0, 1, Integer.MIN_VALUE);
        x.setValue(0, 1, 1, Integer.MAX_VALUE);
        x.setValue(0, 2, 1, -1);
        Check.due("31 times the least int", x.unit(0, 0, 0), Integer.MIN_VALUE);
        Check.due("31 times the greatest int", x.unit(0, 1, 0), Integer.MAX_VALUE - 30);
        Check.due("31 times -1", x.unit(0, 2, 0), -31);
    }

    /** Values: "and a length in units, 0 to 30" */
    private static void lengthsAreZeroToThirty() {
        Counted x = new Counted();
        for (int length = 0; length <= 30; length++) {
            int now = length;
            x.setValue(0, 0, length, 0);
            Check.throwsIndex("unit(0, 0, " + now + ")", () -> x.unit(0, 0, now));
            Check.due("the length", x.resize(0, 0, length), length);
        }
        Check.throwsArgument("setValue(0, 0, 31, 0)", () -> x.setValue(0, 0, 31, 0));
        Check.throwsArgument("setValue(0, 0, -1, 0)", () -> x.setValue(0, 0, -1, 0));
    }

    /**
     * Values: "The unit i of a value, from 0, is the number 31 * seed + 17 * i, as an int that goes
     *     round."
     */
    private static void unitsGoRound() {
        Counted x = new Counted();
        // 31 * 69273666 is 2147483646, the greatest int less 1.
        x.setValue(0, 0, 30, 69273666);
        Check.due("the unit 0, just below the greatest int", x.unit(0, 0, 0), Integer.MAX_VALUE - 1);
        Check.due("the unit 1, which goes round", x.unit(0, 0, 1), Integer.MIN_VALUE + 15);
        Check.due("the unit 29", x.unit(0, 0, 29), Integer.MIN_VALUE + 15 + 28 * 17);
        x.setValue(0, 0, 30, 69273667);
        Check.due("the unit 0, whose seed goes round", x.unit(0, 0, 0), Integer.MIN_VALUE + 29);
        x.setValue(0, 0, 30, -69273667);
        Check.due("the unit 0, which goes round below", x.unit(0, 0, 0), Integer.MAX_VALUE - 28);
        Check.due("the unit 1, back again", x.unit(0, 0, 1), Integer.MAX_VALUE - 11);
        Check.due("the unit 2", x.unit(0, 0, 2), Integer.MIN_VALUE + 5);
    }

    /** Values: "A value has a cell of 3 units, in which a length up to 1 lies" */
    private static void aLengthUpToOneLiesInTheCell() {
        for (int length = 0; length <= 1; length++) {
            Counted x = new Counted();
            x.setValue(0, 0, length, 0);
            Check.sameCells("a value of " + length, "4:6 10:2 12:3 15:5 20:-12", x);
        }
        Counted y = new Counted();
        y.setValue(0, 0, 2, 0);
        Check.sameCells("a value of 2", "4:6 10:2 12:4 16:3 19:5 24:-8", y);
    }

    /**
     * Values: "with a greater length it has pieces, of 8 units each, and the last one of the rest; a
     *     piece is a cell of 2 units more than it has units of the value"
     */
    private static void piecesAreOfEightUnitsAndTheRest() {
        for (int length = 2; length <= 30; length++) {
            Counted x = new Counted();
            x.setValue(0, 0, length, 0);
            int unit = 12;
            for (int left = length; left > 0; left -= 8) {
                int size = Math.min(left, 8) + 2;
                Check.due("a piece of a value of " + length, x.cell(unit), size);
                unit += size;
            }
            Check.due("the cell behind the pieces", x.cell(unit), 3);
            Check.due("the value list behind that", x.cell(unit + 3), 5);
        }
    }

    /**
     * Values: "A key with values has a cell for its value list, of 5 units, or of 9 units from the time
     *     on when it comes to have 5 values"
     */
    private static void theListIsLongerFromFiveValuesOn() {
        Counted x = new Counted();
        for (int values = 1; values <= 8; values++) {
            x.setValue(0, values, 0, 0);
            Check.due("used() with " + values, x.used(), 8 + 3 * values + (values < 5 ? 5 : 9));
        }
        Counted y = Builds.withValues(4);
        y.setValue(0, 0, 0, 1);
        Check.due("used() when one of four is set anew", y.used(), 8 + 4 * 3 + 5);
        y.dropValue(0, 0);
        y.setValue(0, 9, 0, 0);
        Check.due("used() with four again", y.used(), 8 + 4 * 3 + 5);
    }

    /** Values: "from the time on when it comes to have 5 values" */
    private static void theLongerListStaysWhileThereAreValues() {
        Counted x = Builds.withValues(5);
        Check.sameCells("five values", "4:6 10:2 12:3 15:-5 20:3 23:3 26:3 29:3 32:9 41:-7", x);
        for (int name = 0; name < 4; name++) {
            Check.due("dropValue()", x.dropValue(0, name), 3);
            Check.due("the list", x.cell(32), 9);
        }
        x.setValue(0, 0, 0, 0);
        Check.due("used() with two values", x.used(), 8 + 2 * 3 + 9);
        for (int name = 1; name < 4; name++) {
            x.setValue(0, name, 0, 0);
        }
        Check.due("used() with five again", x.used(), 8 + 5 * 3 + 9);
        Check.due("the list is the same", x.cell(32), 9);
    }

    /** Values: "it is given back when no value is left" */
    private static void theListIsGivenBackWithTheLastValue() {
        Counted x = Builds.withValues(5);
        for (int name = 1; name < 5; name++) {
            x.dropValue(0, name);
        }
        Check.due("dropValue() of the last one", x.dropValue(0, 0), 3 + 9);
        Check.due("used()", x.used(), 8);
        x.setValue(0, 0, 0, 0);
        Check.due("used() with a short list again", x.used(), 8 + 3 + 5);
        Check.due("dropValue() of the only one", x.dropValue(0, 0), 3 + 5);
    }

    /**
     * Values: "Setting a value needs its pieces, in order, its cell, if it is a new one, and the cell
     *     of the value list, if there is none or a greater one is needed"
     */
    private static void settingNeedsPiecesCellAndList() {
        Counted x = new Counted();
        x.setValue(0, 0, 30, 0);
        Check.sameCells("pieces, cell, list", "4:6 10:2 12:10 22:10 32:10 42:8 50:3 53:5 58:-6", x);
        Counted y = Builds.withValues(4);
        y.setValue(0, 4, 9, 0);
        Check.sameCells("pieces, cell, longer list",
                "4:6 10:2 12:3 15:-5 20:3 23:3 26:3 29:10 39:3 42:3 45:9 54:-10", y);
        Counted z = Builds.withValues(1);
        z.setValue(0, 1, 2, 0);
        Check.sameCells("pieces and cell", "4:6 10:2 12:3 15:5 20:4 24:3 27:-5", z);
    }

    /**
     * Values: "its cell, if it is a new one"
     * Values: "if there is none or a greater one is needed"
     */
    private static void settingAnewNeedsPiecesAlone() {
        for (int values = 1; values <= 8; values++) {
            Counted x = Builds.withValues(values);
            String before = Check.cellsOf(x);
            Check.due("setValue() of one of " + values, x.setValue(0, 0, 1, 9), values);
            Check.sameCells("set anew without pieces", before.trim(), x);
            int used = x.used();
            x.setValue(0, 0, 30, 9);
            Check.due("used() with pieces", x.used(), used + 38);
        }
        Counted y = Builds.withRoom(0);
        Check.due("setValue() in a full file, as it needs none", y.setValue(6, 0, 1, 3), 1);
    }

    /** Values: "then the pieces that it had before are given back, in order" */
    private static void settingAnewGivesBackThePieces() {
        Counted x = new Counted();
        x.setValue(0, 0, 30, 1);
        x.setValue(0, 0, 30, 1);
        Check.sameCells("set as it was", "4:6 10:2 12:-38 50:3 53:5 58:10 68:10 78:10 88:8", x);
        x.setValue(0, 0, 30, 1);
        Check.sameCells("and back again", "4:6 10:2 12:10 22:10 32:10 42:8 50:3 53:5 58:-38", x);
        x.setValue(0, 0, 0, 1);
        Check.sameCells("set to no unit", "4:6 10:2 12:-38 50:3 53:5 58:-38", x);
    }

    /** Values: "and then the cell of the value list, if there is another one now" */
    private static void settingTheFifthGivesBackTheList() {
        Counted x = Builds.withValues(5);
        Check.due("the place of the shorter list", x.cell(15), -5);
        x.setValue(0, 5, 0, 0);
        Check.due("the shorter list was given back once", x.used(), 8 + 6 * 3 + 9);
        for (int name = 0; name < 6; name++) {
            int due = 31 * (name == 5 ? 0 : name);
            x.resize(0, name, 1);
            Check.due("the values are in the list still", x.unit(0, name, 0), due);
        }
    }

    /** The pieces of a value, by a length as it was and one to which it is resized. */
    private static void resized(int from, int to, String due) {
        Counted x = new Counted();
        x.setValue(0, 0, from, 0);
        x.resize(0, 0, to);
        Check.sameCells("resized from " + from + " to " + to, due, x);
    }

    /**
     * Values: "Resizing it keeps those of its pieces, from the first one on, that have as many units as
     *     before"
     */
    private static void resizingKeepsPiecesOfTheSameUnits() {
        resized(8, 9, "4:6 10:2 12:10 22:3 25:5 30:3 33:-15");
        resized(9, 8, "4:6 10:2 12:10 22:-3 25:3 28:5 33:-15");
        resized(8, 16, "4:6 10:2 12:10 22:3 25:5 30:10 40:-8");
        resized(16, 8, "4:6 10:2 12:10 22:-10 32:3 35:5 40:-8");
        resized(24, 30, "4:6 10:2 12:10 22:10 32:10 42:3 45:5 50:8 58:-6");
        resized(30, 24, "4:6 10:2 12:10 22:10 32:10 42:-8 50:3 53:5 58:-6");
        resized(9, 10, "4:6 10:2 12:10 22:-3 25:3 28:5 33:4 37:-11");
        resized(30, 29, "4:6 10:2 12:10 22:10 32:10 42:-8 50:3 53:5 58:7 65:-15");
    }

    /** Values: "from the first one on" */
    private static void resizingKeepsFromTheFirstPieceOn() {
        // The piece of 4 units is the first, and would be the second one: none is kept.
        resized(4, 12, "4:6 10:2 12:-6 18:3 21:5 26:10 36:6 42:-6");
        resized(12, 4, "4:6 10:2 12:-16 28:3 31:5 36:6 42:-6");
        // 8 and 1, then 8, 8 and 1: the first one is kept alone.
        resized(9, 17, "4:6 10:2 12:10 22:-3 25:3 28:5 33:10 43:3 46:-2");
        resized(17, 9, "4:6 10:2 12:10 22:-13 35:3 38:5 43:3 46:-2");
        resized(7, 8, "4:6 10:2 12:-9 21:3 24:5 29:10 39:-9");
        resized(8, 7, "4:6 10:2 12:-10 22:3 25:5 30:9 39:-9");
    }

    /**
     * Values: "it needs the others, in order; then those that it had in their place are given back, in
     *     order"
     */
    private static void resizingNeedsTheOthersFirst() {
        resized(0, 2, "4:6 10:2 12:3 15:5 20:4 24:-8");
        resized(1, 30, "4:6 10:2 12:3 15:5 20:10 30:10 40:10 50:8 58:-6");
        resized(2, 1, "4:6 10:2 12:-4 16:3 19:5 24:-8");
        resized(30, 0, "4:6 10:2 12:-38 50:3 53:5 58:-6");
        resized(2, 3, "4:6 10:2 12:-4 16:3 19:5 24:5 29:-3");
        // 8, 8 and 4 become 8, 8, 8 and 6: got are 10 and 8, and the 6 units are free behind that.
        resized(20, 30, "4:6 10:2 12:10 22:10 32:-6 38:3 41:5 46:10 56:8");
    }

    /** Values: "that have as many units as before" */
    private static void resizingToTheSameLengthKeepsAll() {
        for (int length = 0; length <= 30; length++) {
            Counted x = new Counted();
            x.setValue(0, 0, length, 5);
            String before = Check.cellsOf(x);
            Check.due("resize() to " + length, x.resize(0, 0, length), length);
            Check.sameCells("resized to the same length", before.trim(), x);
        }
        Check.due("resize() to the same in a full file", Builds.withRoom(0).resize(6, 0, 30), 30);
    }

    /**
     * Values: "Dropping it gives back its pieces, its cell, and the cell of the value list, if it was
     *     the last one."
     */
    private static void droppingGivesBackPiecesCellAndList() {
        for (int length = 0; length <= 30; length++) {
            Counted x = new Counted();
            x.setValue(0, 0, 0, 0);
            x.setValue(0, 1, length, 0);
            int pieces = length < 2 ? 0 : length + 2 * ((length + 7) / 8);
            Check.due("dropValue() of one of two", x.dropValue(0, 1), pieces + 3);
            x.setValue(0, 0, length, 0);
            Check.due("dropValue() of the last one", x.dropValue(0, 0), pieces + 3 + 5);
            Check.due("used()", x.used(), 8);
        }
    }

    // ---- promises 10 to 13

    /**
     * Promise 10: "`key`: a key"
     * Promise 10: "Throws `IndexOutOfBoundsException` if there is no such key"
     */
    private static void setValueTakesKeysThatExist() {
        Twins.noSuchKey("setValue()", (x, key) -> x.setValue(key, 0, 0, 0));
        Counted x = Builds.chain(79);
        Check.due("setValue() of the root", x.setValue(0, 0, 0, 0), 1);
        Check.due("setValue() of the last key", x.setValue(79, 0, 0, 0), 1);
    }

    /**
     * Promise 10: "`name`: 0 to 99"
     * Promise 10: "Throws `IllegalArgumentException` if name or length is out of range"
     */
    private static void setValueTakesNamesInRange() {
        Twins.outOfRange("setValue() of names", 0, 99, (x, name) -> x.setValue(0, name, 0, 0));
        Counted x = new Counted();
        Check.due("setValue() with the least name", x.setValue(0, 0, 0, 0), 1);
        Check.due("setValue() with the greatest name", x.setValue(0, 99, 0, 0), 2);
        Check.due("resize() of it", x.resize(0, 99, 1), 0);
    }

    /**
     * Promise 10: "`length`: 0 to 30"
     * Promise 10: "if name or length is out of range"
     */
    private static void setValueTakesLengthsInRange() {
        Twins.outOfRange("setValue() of lengths", 0, 30, (x, length) -> x.setValue(0, 0, length, 0));
        Twins.outOfRange("setValue() anew of lengths", 0, 30, (x, length) -> x.setValue(1, 0, length, 0));
        Counted x = new Counted();
        Check.due("setValue() with the least length", x.setValue(0, 0, 0, 0), 1);
        Check.due("setValue() with the greatest length", x.setValue(0, 1, 30, 0), 2);
        Check.due("its last unit", x.unit(0, 1, 29), 29 * 17);
    }

    /** Promise 10: "`seed`: any int" */
    private static void setValueTakesAnySeed() {
        Counted x = new Counted();
        for (int bit = 0; bit < 32; bit++) {
            for (int seed : new int[] {1 << bit, -1 << bit, (1 << bit) - 1}) {
                x.setValue(0, 0, 2, seed);
                Check.due("unit(0, 0, 0) of the seed " + seed, x.unit(0, 0, 0), (int) (31L * seed));
                Check.due("unit(0, 0, 1) of the seed " + seed, x.unit(0, 0, 1), (int) (31L * seed + 17));
            }
        }
    }

    /**
     * Promise 10: "Sets a value, in place of the one that there may be."
     * Promise 10: "Returns how many values the key has then."
     */
    private static void setValueAnswersOneToEight() {
        Counted x = new Counted();
        for (int values = 1; values <= 8; values++) {
            Check.due("setValue() of a new one", x.setValue(0, values, 3, 1), values);
            Check.due("setValue() in place of it", x.setValue(0, values, 4, 2), values);
            Check.due("its length", x.resize(0, values, 4), 4);
            Check.due("its unit", x.unit(0, values, 3), 62 + 51);
        }
        x.dropValue(0, 1);
        Check.due("setValue() in place of one of seven", x.setValue(0, 2, 30, 0), 7);
    }

    /** Promise 10: "Throws `IllegalStateException` if the key is a link" */
    private static void setValueIsRefusedForALink() {
        Twins.state("setValue() of a link", Builds::rich, x -> x.setValue(3, 0, 0, 0));
        Twins.state("setValue() of a link, with pieces", Builds::rich, x -> x.setValue(3, 99, 30, 7));
    }

    /** Promise 10: "it would have 9 values" */
    private static void setValueIsRefusedForANinthValue() {
        Twins.state("setValue() of a ninth value", () -> Builds.withValues(8), x -> x.setValue(0, 8, 0, 0));
        Twins.state("setValue() of a ninth, with pieces", () -> Builds.withValues(8), x -> x.setValue(0, 99, 30, 0));
        Check.due("setValue() of an eighth", Builds.withValues(7).setValue(0, 7, 30, 0), 8);
        Check.due("setValue() of the first of eight", Builds.withValues(8).setValue(0, 0, 30, 0), 8);
        Check.due("setValue() of the last of eight", Builds.withValues(8).setValue(0, 7, 30, 0), 8);
    }

    /** Promise 10: "or there is no room" */
    private static void setValueIsRefusedWithoutRoom() {
        for (int room = 0; room < 3; room++) {
            int units = room;
            Twins.state("setValue() with room for " + room, () -> Builds.withRoom(units), x -> x.setValue(5, 9, 0, 0));
        }
        Twins.state("setValue() with room for 37", () -> Builds.withRoom(37), x -> x.setValue(6, 0, 30, 5));
        Twins.state("setValue() with room for 40", () -> Builds.withRoom(40), x -> x.setValue(6, 9, 30, 5));
        Check.due("setValue() with room for 38", Builds.withRoom(38).setValue(6, 0, 30, 5), 1);
        Check.due("setValue() with room for 3", Builds.withRoom(3).setValue(5, 9, 0, 0), 3);
        Check.due("setValue() that needs no room", Builds.withRoom(0).setValue(5, 1, 1, 0), 2);
    }

    /**
     * Promise 11: "`key`: a key"
     * Promise 11: "`name`: 0 to 99"
     * Promise 11: "Throws `IndexOutOfBoundsException` if there is no such key or value"
     */
    private static void resizeTakesKeysAndValuesThatExist() {
        Twins.noSuchKey("resize()", (x, key) -> x.resize(key, 0, 0));
        for (int name : new int[] {Integer.MIN_VALUE, -1, 3, 99, 100, Integer.MAX_VALUE}) {
            Twins.index("resize() of the value " + name, Builds::rich, x -> x.resize(1, name, 0));
            Twins.index("resize() of a link's value " + name, Builds::rich, x -> x.resize(3, name, 0));
        }
        Counted x = new Counted();
        x.setValue(0, 0, 3, 0);
        x.setValue(0, 99, 4, 0);
        Check.due("resize() of the least name", x.resize(0, 0, 5), 3);
        Check.due("resize() of the greatest name", x.resize(0, 99, 5), 4);
        x.dropValue(0, 99);
        Check.throwsIndex("resize() of one that was dropped", () -> x.resize(0, 99, 5));
    }

    /**
     * Promise 11: "`length`: 0 to 30"
     * Promise 11: "Throws `IllegalArgumentException` if length is out of range"
     */
    private static void resizeTakesLengthsInRange() {
        Twins.outOfRange("resize()", 0, 30, (x, length) -> x.resize(1, 0, length));
        Twins.outOfRange("resize() of no unit", 0, 30, (x, length) -> x.resize(1, 1, length));
        Counted x = Builds.withValues(1);
        Check.due("resize() to the greatest length", x.resize(0, 0, 30), 0);
        Check.due("resize() to the least length", x.resize(0, 0, 0), 30);
        Check.due("resize() from it", x.resize(0, 0, 1), 0);
    }

    /**
     * Promise 11: "Lets a value have another length, with the same seed."
     * Promise 11: "Returns the length before."
     */
    private static void resizeAnswersTheLengthBefore() {
        Counted x = new Counted();
        x.setValue(0, 0, 30, Integer.MIN_VALUE);
        x.setValue(0, 1, 5, 1);
        int before = 30;
        for (int length = 0; length <= 30; length++) {
            Check.due("resize() to " + length, x.resize(0, 0, length), before);
            before = length;
            if (length > 0) {
                int last = length - 1;
                Check.due("the last unit of " + length, x.unit(0, 0, last), Integer.MIN_VALUE + 17 * last);
            }
        }
        Check.due("the other value is as it was", x.resize(0, 1, 5), 5);
    }

    /** Promise 11: "Throws `IllegalStateException` if there is no room" */
    private static void resizeIsRefusedWithoutRoom() {
        for (int length = 2; length <= 8; length++) {
            int units = length + 2;
            int last = 24 + length;
            if (last < 30) {
                Twins.state("resize() to " + last, () -> Builds.withRoom(units - 1), x -> x.resize(6, 0, last));
                Check.due("resize() to " + last, Builds.withRoom(units).resize(6, 0, last), 30);
            }
        }
        Twins.state("resize() to 7", () -> Builds.withRoom(8), x -> x.resize(6, 0, 7));
        Check.due("resize() to 7", Builds.withRoom(9).resize(6, 0, 7), 30);
        for (int length = 0; length <= 30; length += 8) {
            Check.due("resize() that needs no room", Builds.withRoom(0).resize(6, 0, length), 30);
        }
        Check.due("resize() to 1, which needs none", Builds.withRoom(0).resize(6, 0, 1), 30);
    }

    /**
     * Promise 12: "`key`: a key"
     * Promise 12: "`name`: 0 to 99"
     * Promise 12: "Throws `IndexOutOfBoundsException` if there is no such key or value"
     */
    private static void dropValueTakesKeysAndValuesThatExist() {
        Twins.noSuchKey("dropValue()", (x, key) -> x.dropValue(key, 0));
        for (int name : new int[] {Integer.MIN_VALUE, -1, 3, 99, 100, Integer.MAX_VALUE}) {
            Twins.index("dropValue() of " + name, Builds::rich, x -> x.dropValue(1, name));
            Twins.index("dropValue() of a link's " + name, Builds::rich, x -> x.dropValue(3, name));
        }
        Counted x = Builds.withValues(1);
        x.setValue(0, 99, 0, 0);
        Check.due("dropValue() of the greatest name", x.dropValue(0, 99), 3);
        Check.throwsIndex("dropValue() of it again", () -> x.dropValue(0, 99));
        Check.due("dropValue() of the least name", x.dropValue(0, 0), 8);
        Check.throwsIndex("dropValue() of it again", () -> x.dropValue(0, 0));
    }

    /**
     * Promise 12: "Drops a value."
     * Promise 12: "Returns how many units are given back."
     */
    private static void dropValueAnswersTheLeastAndTheMost() {
        Counted x = Builds.withValues(5);
        Check.due("dropValue(), the least", x.dropValue(0, 4), 3);
        for (int name = 1; name < 4; name++) {
            x.dropValue(0, name);
        }
        x.setValue(0, 0, 30, 0);
        Check.due("dropValue(), the most", x.dropValue(0, 0), 38 + 3 + 9);
        for (int dropped = 0; dropped < 8; dropped++) {
            Counted y = Builds.withValues(8);
            y.dropValue(0, dropped);
            for (int name = 0; name < 8; name++) {
                int asked = name;
                if (name == dropped) {
                    Check.throwsIndex("resize() of the one that was dropped", () -> y.resize(0, asked, 1));
                } else {
                    y.resize(0, name, 1);
                    Check.due("the others stay", y.unit(0, name, 0), 31 * name);
                }
            }
        }
    }

    /**
     * Promise 13: "`key`: a key"
     * Promise 13: "`name`: 0 to 99"
     * Promise 13: "Throws `IndexOutOfBoundsException` if there is no such key, value or unit"
     */
    private static void unitTakesKeysAndValuesThatExist() {
        Twins.noSuchKey("unit()", (x, key) -> x.unit(key, 0, 0));
        for (int name : new int[] {Integer.MIN_VALUE, -1, 3, 99, 100, Integer.MAX_VALUE}) {
            Twins.index("unit() of the value " + name, Builds::rich, x -> x.unit(1, name, 0));
        }
        Twins.index("unit() of a link", Builds::rich, x -> x.unit(3, 0, 0));
        Counted x = new Counted();
        x.setValue(0, 0, 1, 1);
        x.setValue(0, 99, 1, 2);
        Check.due("unit() of the least name", x.unit(0, 0, 0), 31);
        Check.due("unit() of the greatest name", x.unit(0, 99, 0), 62);
    }

    /**
     * Promise 13: "`unit`: 0 to the length less 1"
     * Promise 13: "if there is no such key, value or unit"
     */
    private static void unitTakesUnitsOfTheValue() {
        for (int unit : new int[] {Integer.MIN_VALUE, -1, 20, 30, Integer.MAX_VALUE}) {
            Twins.index("unit() of 20 with " + unit, Builds::rich, x -> x.unit(1, 0, unit));
        }
        Twins.index("unit() of no units", Builds::rich, x -> x.unit(1, 1, 0));
        Counted x = new Counted();
        for (int length = 1; length <= 30; length++) {
            int end = length;
            x.setValue(0, 0, length, 0);
            Check.due("the first unit", x.unit(0, 0, 0), 0);
            Check.due("the last unit", x.unit(0, 0, length - 1), 17 * (length - 1));
            Check.throwsIndex("the unit behind the last", () -> x.unit(0, 0, end));
        }
        x.resize(0, 0, 8);
        Check.throwsIndex("a unit that was there", () -> x.unit(0, 0, 8));
    }

    /**
     * Promise 13: "Returns a unit of a value."
     * Promise 13: "Returns the number of the unit."
     */
    private static void unitAnswersTheNumber() {
        Counted x = new Counted();
        x.setValue(0, 0, 30, Integer.MAX_VALUE);
        for (int unit = 0; unit < 30; unit++) {
            Check.due("unit " + unit, x.unit(0, 0, unit), (int) (31L * Integer.MAX_VALUE + 17 * unit));
        }
    }
}
