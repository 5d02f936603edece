import java.util.Arrays;

/**
 * A registry in one growing file.
 *
 * <p>What lies in the units of a cell (another cell is told by the unit at which it begins; 0 stands
 * for none, as the head of the file is there):
 * <ul>
 * <li>key: name, parent, list, value list, rights, target
 * <li>leaf: how many entries, then the entries
 * <li>index: how many leaves, then the leaves
 * <li>value list: how many values, then the values
 * <li>value: name and length, seed, first piece
 * <li>piece: next piece (the units of a value are worked out when they are asked for)
 * <li>rights: how many keys have them
 * </ul>
 */
public final class HiveKeys {
    private static final int MAX_KEYS = 80;
    private static final int MAX_NAME = 9999;
    private static final int MAX_VALUE_NAME = 99;
    private static final int MAX_LENGTH = 30;
    private static final int MAX_RIGHTS = 255;
    private static final int MAX_LINKS_FOLLOWED = 4;
    private static final int MAX_WRITES = 200;

    private static final int ROOT = 0;
    private static final int NO_KEY = -1;
    private static final int NO_CELL = 0;

    private static final int OF_SUBKEYS = 1;
    private static final int OF_VALUES = 2;
    private static final int OF_RIGHTS = 4;
    private static final int ALL_KINDS = OF_SUBKEYS + OF_VALUES + OF_RIGHTS;

    private static final int KEY_SIZE = 6;
    private static final int KEY_NAME = 0;
    private static final int KEY_PARENT = 1;
    private static final int KEY_LIST = 2;
    private static final int KEY_VALUES = 3;
    private static final int KEY_RIGHTS = 4;
    private static final int KEY_TARGET = 5;

    private final Image file;
    private final Cells cells;
    private final Lists lists;
    private final Values values;
    private final Sharing sharing;
    private final Watches watches;
    private final Flushes flushes;
    /** The keys of a walk through the tree, each behind its parent. */
    private final int[] walk = new int[MAX_KEYS];

    public HiveKeys() {
        Image newFile = new Image();
        Cells newCells = new Cells(newFile);
        file = newFile;
        cells = newCells;
        lists = new Lists(newFile, newCells);
        values = new Values(newFile, newCells);
        sharing = new Sharing(newFile, newCells);
        watches = new Watches();
        flushes = new Flushes();
        cells.wantNothing();
        cells.want(KEY_SIZE);
        cells.getAllWanted();
        enterKey(cells.got(0), 0, NO_KEY, NO_KEY);
        sharing.join(0);
        cells.forgetDirty();
        flushes.keepAsWhole(newFile);
    }

    // ---- keys

    public int make(int key, int name)
            throws IndexOutOfBoundsException, IllegalArgumentException, IllegalStateException {
        requireKey(key);
        requireName(name);
        return makeSubkey(key, name, NO_KEY);
    }

    public int makeLink(int key, int name, int target)
            throws IndexOutOfBoundsException, IllegalArgumentException, IllegalStateException {
        requireKey(key);
        requireKey(target);
        requireName(name);
        return makeSubkey(key, name, target);
    }

    public int rename(int key, int name)
            throws IndexOutOfBoundsException, IllegalArgumentException, IllegalStateException {
        requireKey(key);
        requireName(name);
        requireNotRoot(key);
        int keyCell = file.placeOfKey(key);
        int parent = file.unitAt(keyCell + KEY_PARENT);
        int parentCell = file.placeOfKey(parent);
        int before = file.unitAt(keyCell + KEY_NAME);
        requireNameFree(parentCell, name);
        cells.wantNothing();
        requireListNotFull(lists.wantFor(parentCell, Lists.entryOf(key, name)));
        requireRoom(cells.getAllWanted());
        lists.putIn(parentCell, Lists.entryOf(key, name), 0);
        lists.takeOut(parentCell, Lists.entryOf(key, before));
        file.putUnit(keyCell + KEY_NAME, name);
        cells.markWritten(keyCell);
        tellUpwards(parent, OF_SUBKEYS);
        return before;
    }

    public int delete(int key) throws IndexOutOfBoundsException, IllegalStateException {
        requireKey(key);
        requireNotRoot(key);
        int keyCell = file.placeOfKey(key);
        requireNoSubkeys(keyCell);
        int parent = file.unitAt(keyCell + KEY_PARENT);
        int entry = Lists.entryOf(key, file.unitAt(keyCell + KEY_NAME));
        int rights = file.unitAt(keyCell + KEY_RIGHTS);
        int given = values.dropAll(keyCell);
        given += cells.giveBack(keyCell);
        file.setPlaceOfKey(key, NO_CELL);
        given += sharing.leave(rights);
        given += lists.takeOut(file.placeOfKey(parent), entry);
        watches.end(key);
        tellUpwards(parent, OF_SUBKEYS);
        return given;
    }

    public int find(int key, int name) throws IndexOutOfBoundsException, IllegalArgumentException {
        requireKey(key);
        requireName(name);
        return lists.subkeyNamed(file.placeOfKey(key), name);
    }

    public int subkeyAt(int key, int index) throws IndexOutOfBoundsException {
        requireKey(key);
        int keyCell = file.placeOfKey(key);
        if (index < 0 || index >= lists.entryCount(keyCell)) {
            throw new IndexOutOfBoundsException("there is no such subkey");
        }
        return lists.subkeyNumbered(keyCell, index);
    }

    public int list(int key) throws IndexOutOfBoundsException {
        requireKey(key);
        int keyCell = file.placeOfKey(key);
        return 10 * lists.entryCount(keyCell) + lists.leafCount(keyCell);
    }

    public int follow(int key) throws IndexOutOfBoundsException {
        requireKey(key);
        int reached = key;
        for (int links = 0; links < MAX_LINKS_FOLLOWED && isLink(reached); links++) {
            reached = file.unitAt(file.placeOfKey(reached) + KEY_TARGET);
        }
        return hasKey(reached) && !isLink(reached) ? reached : NO_KEY;
    }

    // ---- values

    public int setValue(int key, int name, int length, int seed)
            throws IndexOutOfBoundsException, IllegalArgumentException, IllegalStateException {
        requireKey(key);
        requireValueName(name);
        requireLength(length);
        requireNoLink(key);
        int keyCell = file.placeOfKey(key);
        if (!values.canHold(keyCell, name)) {
            throw new IllegalStateException("the key has as many values as it can have");
        }
        requireRoom(values.assign(keyCell, name, length, seed));
        tellUpwards(key, OF_VALUES);
        return values.valueCount(keyCell);
    }

    public int resize(int key, int name, int length)
            throws IndexOutOfBoundsException, IllegalArgumentException, IllegalStateException {
        requireKey(key);
        int keyCell = file.placeOfKey(key);
        int valueCell = values.cellNamed(keyCell, name);
        requireValue(valueCell);
        requireLength(length);
        int before = values.lengthOf(valueCell);
        requireRoom(values.changeLength(keyCell, valueCell, length));
        tellUpwards(key, OF_VALUES);
        return before;
    }

    public int dropValue(int key, int name) throws IndexOutOfBoundsException {
        requireKey(key);
        int keyCell = file.placeOfKey(key);
        int valueCell = values.cellNamed(keyCell, name);
        requireValue(valueCell);
        int given = values.drop(keyCell, valueCell);
        tellUpwards(key, OF_VALUES);
        return given;
    }

    public int unit(int key, int name, int unit) throws IndexOutOfBoundsException {
        requireKey(key);
        int valueCell = values.cellNamed(file.placeOfKey(key), name);
        requireValue(valueCell);
        if (unit < 0 || unit >= values.lengthOf(valueCell)) {
            throw new IndexOutOfBoundsException("there is no such unit of the value");
        }
        return 31 * values.seedOf(valueCell) + 17 * unit;
    }

    // ---- rights

    public int setRights(int key, int rights)
            throws IndexOutOfBoundsException, IllegalArgumentException, IllegalStateException {
        requireKey(key);
        requireRights(rights);
        int keyCell = file.placeOfKey(key);
        int before = file.unitAt(keyCell + KEY_RIGHTS);
        if (rights != before) {
            requireRoom(sharing.join(rights));
            sharing.leave(before);
            file.putUnit(keyCell + KEY_RIGHTS, rights);
            cells.markWritten(keyCell);
            tellUpwards(key, OF_RIGHTS);
        }
        return before;
    }

    public int sharers(int rights) throws IllegalArgumentException {
        requireRights(rights);
        return sharing.keysWith(rights);
    }

    // ---- cells

    public int sectors() {
        return file.sectorCount;
    }

    public int cell(int unit) throws IndexOutOfBoundsException {
        if (unit < 0 || unit >= file.end()) {
            throw new IndexOutOfBoundsException("there is no such unit of the file");
        }
        return file.sizeAt(unit);
    }

    public int place(int key) throws IndexOutOfBoundsException {
        requireKey(key);
        return file.placeOfKey(key);
    }

    public int used() {
        return cells.unitsInUse();
    }

    public int usedByTree() {
        sharing.startCounting();
        store(walk, 0, ROOT);
        int known = 1;
        int sum = 0;
        for (int i = 0; i < known && i < MAX_KEYS; i++) {
            int keyCell = file.placeOfKey(read(walk, i));
            sum += file.sizeAt(keyCell);
            sum += lists.unitsOf(keyCell);
            sum += values.unitsOf(keyCell);
            sum += sharing.unitsNotYetCounted(file.unitAt(keyCell + KEY_RIGHTS));
            known = addSubkeysToWalk(keyCell, known);
        }
        return sum;
    }

    // ---- watches

    public boolean watch(int key, int kinds, boolean isDeep)
            throws IndexOutOfBoundsException, IllegalArgumentException {
        requireKey(key);
        if (kinds < 1 || kinds > ALL_KINDS) {
            throw new IllegalArgumentException("the kinds are out of range");
        }
        boolean isFirst = !watches.isWatched(key);
        watches.start(key, kinds, isDeep);
        return isFirst;
    }

    public int takeNotice() {
        int key = watches.keyToldFirst();
        return key == NO_KEY ? -1 : 10 * key + watches.takeKindTold(key);
    }

    // ---- flushes and crashes

    public long dirty() {
        return cells.dirtySectors;
    }

    public int flush() throws IllegalStateException {
        if (flushes.isRunning) {
            throw new IllegalStateException("a flush is running");
        }
        if (cells.dirtySectors == 0) {
            throw new IllegalStateException("no sector is dirty");
        }
        flushes.begin(file, Long.bitCount(cells.dirtySectors));
        cells.forgetDirty();
        return flushes.writesLeft();
    }

    public int write(int writes) throws IllegalArgumentException, IllegalStateException {
        if (writes < 1 || writes > MAX_WRITES) {
            throw new IllegalArgumentException("the number of writes is out of range");
        }
        if (!flushes.isRunning) {
            throw new IllegalStateException("no flush is running");
        }
        flushes.advance(writes);
        return flushes.writesLeft();
    }

    public int log(int log) throws IllegalArgumentException {
        if (log < 0 || log > 1) {
            throw new IllegalArgumentException("there are the logs 0 and 1 only");
        }
        return flushes.heldByLog(log);
    }

    public int crash() {
        flushes.breakOff();
        flushes.restoreWhole(file);
        cells.forgetDirty();
        watches.endAll();
        return flushes.wholeNumber;
    }

    // ---- what a call must find

    private void requireKey(int key) {
        if (!hasKey(key)) {
            throw new IndexOutOfBoundsException("there is no such key");
        }
    }

    private static void requireValue(int valueCell) {
        if (valueCell == NO_CELL) {
            throw new IndexOutOfBoundsException("there is no such value");
        }
    }

    private static void requireName(int name) {
        if (name < 0 || name > MAX_NAME) {
            throw new IllegalArgumentException("the name of a key is out of range");
        }
    }

    private static void requireValueName(int name) {
        if (name < 0 || name > MAX_VALUE_NAME) {
            throw new IllegalArgumentException("the name of a value is out of range");
        }
    }

    private static void requireLength(int length) {
        if (length < 0 || length > MAX_LENGTH) {
            throw new IllegalArgumentException("the length is out of range");
        }
    }

    private static void requireRights(int rights) {
        if (rights < 0 || rights > MAX_RIGHTS) {
            throw new IllegalArgumentException("the rights are out of range");
        }
    }

    private static void requireNotRoot(int key) {
        if (key == ROOT) {
            throw new IllegalStateException("the root stays as it is");
        }
    }

    private void requireNoSubkeys(int keyCell) {
        if (lists.leafCount(keyCell) != 0) {
            throw new IllegalStateException("the key has subkeys");
        }
    }

    private void requireNoLink(int key) {
        if (isLink(key)) {
            throw new IllegalStateException("the key is a link");
        }
    }

    private void requireNameFree(int parentCell, int name) {
        if (lists.subkeyNamed(parentCell, name) != NO_KEY) {
            throw new IllegalStateException("there is a subkey with this name");
        }
    }

    private static void requireListNotFull(boolean hasPlace) {
        if (!hasPlace) {
            throw new IllegalStateException("the list of subkeys is full");
        }
    }

    private static void requireRoom(boolean hasRoom) {
        if (!hasRoom) {
            throw new IllegalStateException("there is no room");
        }
    }

    // ---- what the calls share

    private boolean hasKey(int key) {
        return file.placeOfKey(key) != NO_CELL;
    }

    private boolean isLink(int key) {
        return hasKey(key) && file.unitAt(file.placeOfKey(key) + KEY_TARGET) != NO_KEY;
    }

    private int makeSubkey(int parent, int name, int target) {
        int parentCell = file.placeOfKey(parent);
        int key = file.nextKey;
        int entry = Lists.entryOf(key, name);
        requireNoLink(parent);
        requireNameFree(parentCell, name);
        if (key >= MAX_KEYS) {
            throw new IllegalStateException("all keys were made");
        }
        cells.wantNothing();
        cells.want(KEY_SIZE);
        requireListNotFull(lists.wantFor(parentCell, entry));
        requireRoom(cells.getAllWanted());
        int keyCell = cells.got(0);
        int rights = file.unitAt(parentCell + KEY_RIGHTS);
        enterKey(keyCell, name, parent, target);
        file.putUnit(keyCell + KEY_RIGHTS, rights);
        sharing.changeCount(rights, 1);
        lists.putIn(parentCell, entry, 1);
        tellUpwards(parent, OF_SUBKEYS);
        return key;
    }

    /** Gives the next number to the key of a new cell, with the rights 0. */
    private void enterKey(int keyCell, int name, int parent, int target) {
        file.putUnit(keyCell + KEY_NAME, name);
        file.putUnit(keyCell + KEY_PARENT, parent);
        file.putUnit(keyCell + KEY_LIST, NO_CELL);
        file.putUnit(keyCell + KEY_VALUES, NO_CELL);
        file.putUnit(keyCell + KEY_RIGHTS, 0);
        file.putUnit(keyCell + KEY_TARGET, target);
        file.setPlaceOfKey(file.nextKey, keyCell);
        file.nextKey++;
    }

    /** Tells the watch of the key, and then the deep ones above, of a change at the key. */
    private void tellUpwards(int key, int kind) {
        watches.tell(key, kind, false);
        int above = file.unitAt(file.placeOfKey(key) + KEY_PARENT);
        for (int levels = 0; levels < MAX_KEYS && above != NO_KEY; levels++) {
            watches.tell(above, kind, true);
            above = file.unitAt(file.placeOfKey(above) + KEY_PARENT);
        }
    }

    private int addSubkeysToWalk(int keyCell, int known) {
        int count = lists.entryCount(keyCell);
        for (int i = 0; i < count; i++) {
            store(walk, known + i, lists.subkeyNumbered(keyCell, i));
        }
        return known + count;
    }

    /** Looks at the index first, so that the machine never has to. */
    private static int read(int[] row, int index) {
        return index >= 0 && index < row.length ? row[index] : 0;
    }

    /** Looks at the index first, so that the machine never has to. */
    private static void store(int[] row, int index, int number) {
        if (index >= 0 && index < row.length) {
            row[index] = number;
        }
    }

    /** All that a flush keeps and a crash brings back: the file, and where in it things are. */
    private static final class Image {
        static final int SECTOR_SIZE = 16;
        static final int MAX_SECTORS = 64;
        static final int HEAD_SIZE = 4;

        /** The size of the cell that begins at a unit, below 0 if it is free; 0 if none begins. */
        final int[] sizes = new int[SECTOR_SIZE * MAX_SECTORS];
        private final int[] units = new int[SECTOR_SIZE * MAX_SECTORS];
        private final int[] keyPlaces = new int[MAX_KEYS];
        private final int[] rightsPlaces = new int[MAX_RIGHTS + 1];
        int sectorCount = 1;
        int nextKey = ROOT;

        Image() {
            store(sizes, HEAD_SIZE, HEAD_SIZE - SECTOR_SIZE);
        }

        void copyFrom(Image other) {
            System.arraycopy(other.sizes, 0, sizes, 0, SECTOR_SIZE * MAX_SECTORS);
            System.arraycopy(other.units, 0, units, 0, SECTOR_SIZE * MAX_SECTORS);
            System.arraycopy(other.keyPlaces, 0, keyPlaces, 0, MAX_KEYS);
            System.arraycopy(other.rightsPlaces, 0, rightsPlaces, 0, MAX_RIGHTS + 1);
            sectorCount = other.sectorCount;
            nextKey = other.nextKey;
        }

        int end() {
            return sectorCount * SECTOR_SIZE;
        }

        int sizeAt(int unit) {
            return read(sizes, unit);
        }

        int unitAt(int unit) {
            return read(units, unit);
        }

        void putUnit(int unit, int number) {
            store(units, unit, number);
        }

        int placeOfKey(int key) {
            return read(keyPlaces, key);
        }

        void setPlaceOfKey(int key, int place) {
            store(keyPlaces, key, place);
        }

        int placeOfRights(int rights) {
            return read(rightsPlaces, rights);
        }

        void setPlaceOfRights(int rights, int place) {
            store(rightsPlaces, rights, place);
        }

        // A leaf, an index and a value list alike are a count and as many items behind it.

        int itemCount(int row) {
            return read(units, row);
        }

        int item(int row, int number) {
            return read(units, row + 1 + number);
        }

        void insertItem(int row, int number, int item) {
            int count = itemCount(row);
            for (int i = count; i > number; i--) {
                store(units, row + 1 + i, item(row, i - 1));
            }
            store(units, row + 1 + number, item);
            store(units, row, count + 1);
        }

        void removeItem(int row, int number) {
            int left = itemCount(row) - 1;
            for (int i = number; i < left; i++) {
                store(units, row + 1 + i, item(row, i + 1));
            }
            store(units, row, left);
        }

        /** Moves the items from one number on to a row that has none. */
        void moveItems(int row, int from, int toRow) {
            int count = itemCount(row);
            store(units, toRow, count - from);
            for (int i = from; i < count; i++) {
                store(units, toRow + 1 + i - from, item(row, i));
            }
            store(units, row, from);
        }

        /** The number of an item that is in the row, -1 if it is not. */
        int numberOfItem(int row, int item) {
            int count = itemCount(row);
            for (int i = 0; i < count; i++) {
                if (item(row, i) == item) {
                    return i;
                }
            }
            return -1;
        }
    }

    /** Gets cells and gives them back, and keeps which sectors are dirty. */
    private static final class Cells {
        static final int MAX_WANTED = 6;

        private final Image file;
        private final int[] wantedSizes = new int[MAX_WANTED];
        private final int[] gotPlaces = new int[MAX_WANTED];
        private final int[] sizesBefore = new int[Image.SECTOR_SIZE * Image.MAX_SECTORS];
        private int wantedCount;
        long dirtySectors;

        Cells(Image file) {
            this.file = file;
        }

        void wantNothing() {
            wantedCount = 0;
        }

        void want(int size) {
            store(wantedSizes, wantedCount, size);
            wantedCount++;
        }

        /** Gets a cell for each size that is wanted, in order; if there is no room for one, none. */
        boolean getAllWanted() {
            int sectorsBefore = file.sectorCount;
            System.arraycopy(file.sizes, 0, sizesBefore, 0, sizesBefore.length);
            for (int i = 0; i < wantedCount; i++) {
                int place = getCell(read(wantedSizes, i));
                if (place == NO_CELL) {
                    file.sectorCount = sectorsBefore;
                    System.arraycopy(sizesBefore, 0, file.sizes, 0, sizesBefore.length);
                    return false;
                }
                store(gotPlaces, i, place);
            }
            for (int i = 0; i < wantedCount; i++) {
                markWritten(read(gotPlaces, i));
            }
            return true;
        }

        int got(int number) {
            return read(gotPlaces, number);
        }

        /** Gives back a cell, joined with the free ones on both sides; answers its size. */
        int giveBack(int place) {
            markWritten(place);
            int size = read(file.sizes, place);
            int begin = place;
            int freeSize = size;
            int behind = place + size;
            if (read(file.sizes, behind) < 0) {
                freeSize -= read(file.sizes, behind);
                store(file.sizes, behind, 0);
            }
            int ahead = cellAhead(place);
            if (read(file.sizes, ahead) < 0) {
                freeSize -= read(file.sizes, ahead);
                store(file.sizes, place, 0);
                begin = ahead;
            }
            store(file.sizes, begin, -freeSize);
            return size;
        }

        void markWritten(int place) {
            int last = (place + read(file.sizes, place) - 1) / Image.SECTOR_SIZE;
            for (int sector = place / Image.SECTOR_SIZE; sector <= last; sector++) {
                dirtySectors |= 1L << sector;
            }
        }

        void forgetDirty() {
            dirtySectors = 0;
        }

        int unitsInUse() {
            int sum = 0;
            int end = file.end();
            int unit = Image.HEAD_SIZE;
            while (unit < end) {
                int size = read(file.sizes, unit);
                sum += Math.max(0, size);
                unit += Math.max(1, Math.abs(size));
            }
            return sum;
        }

        private int getCell(int size) {
            int place = firstFreeFor(size);
            for (int s = file.sectorCount; s < Image.MAX_SECTORS && place == NO_CELL; s++) {
                addSector();
                place = firstFreeFor(size);
            }
            if (place != NO_CELL) {
                int rest = read(file.sizes, place) + size;
                if (rest < 0) {
                    store(file.sizes, place + size, rest);
                }
                store(file.sizes, place, size);
            }
            return place;
        }

        private int firstFreeFor(int wantedSize) {
            int end = file.end();
            int unit = Image.HEAD_SIZE;
            while (unit < end) {
                int size = read(file.sizes, unit);
                if (-size >= wantedSize) {
                    return unit;
                }
                unit += Math.max(1, Math.abs(size));
            }
            return NO_CELL;
        }

        private void addSector() {
            int end = file.end();
            int last = cellAhead(end);
            int begin = read(file.sizes, last) < 0 ? last : end;
            store(file.sizes, begin, begin - end - Image.SECTOR_SIZE);
            file.sectorCount++;
        }

        private int cellAhead(int place) {
            for (int unit = place - 1; unit >= Image.HEAD_SIZE; unit--) {
                if (read(file.sizes, unit) != 0) {
                    return unit;
                }
            }
            return NO_CELL;
        }
    }

    /** The lists of subkeys: leaves, and an index over them if there are two or more. */
    private static final class Lists {
        static final int LEAF_SIZE = 5;
        static final int INDEX_SIZE = 9;
        static final int MAX_ENTRIES = 4;
        static final int MAX_LEAVES = 8;
        static final int STAYING_ENTRIES = 3;

        private final Image file;
        private final Cells cells;

        Lists(Image file, Cells cells) {
            this.file = file;
            this.cells = cells;
        }

        /** Entries are numbers that rise as the list does: by the sum, then the name; then the key. */
        static int entryOf(int key, int name) {
            return rankOf(name) * MAX_KEYS + key;
        }

        int leafCount(int keyCell) {
            int list = file.unitAt(keyCell + KEY_LIST);
            if (list == NO_CELL) {
                return 0;
            }
            return isIndex(list) ? file.itemCount(list) : 1;
        }

        int entryCount(int keyCell) {
            int leaves = leafCount(keyCell);
            int count = 0;
            for (int i = 0; i < leaves; i++) {
                count += file.itemCount(leafNumbered(keyCell, i));
            }
            return count;
        }

        int subkeyNamed(int keyCell, int name) {
            int leaves = leafCount(keyCell);
            for (int i = 0; i < leaves; i++) {
                int key = keyInLeaf(leafNumbered(keyCell, i), name);
                if (key != NO_KEY) {
                    return key;
                }
            }
            return NO_KEY;
        }

        int subkeyNumbered(int keyCell, int index) {
            int leaves = leafCount(keyCell);
            int left = index;
            for (int i = 0; i < leaves; i++) {
                int leaf = leafNumbered(keyCell, i);
                if (left < file.itemCount(leaf)) {
                    return file.item(leaf, left) % MAX_KEYS;
                }
                left -= file.itemCount(leaf);
            }
            return NO_KEY;
        }

        int unitsOf(int keyCell) {
            int list = file.unitAt(keyCell + KEY_LIST);
            int leaves = leafCount(keyCell);
            int sum = leaves > 1 ? file.sizeAt(list) : 0;
            for (int i = 0; i < leaves; i++) {
                sum += file.sizeAt(leafNumbered(keyCell, i));
            }
            return sum;
        }

        /** Wants the cells that putIn() takes; false if the list is full. */
        boolean wantFor(int keyCell, int entry) {
            int leaves = leafCount(keyCell);
            int leaf = leafNumbered(keyCell, leafNumberFor(keyCell, entry));
            if (leaves > 0 && file.itemCount(leaf) < MAX_ENTRIES) {
                return true;
            }
            if (leaves == 1) {
                cells.want(INDEX_SIZE);
            }
            cells.want(LEAF_SIZE);
            return leaves < MAX_LEAVES;
        }

        /** Lets an entry come in; the cells of the list are those that were got from a number on. */
        void putIn(int keyCell, int entry, int firstGot) {
            cells.markWritten(keyCell);
            if (leafCount(keyCell) == 0) {
                int leaf = cells.got(firstGot);
                file.putUnit(leaf, 0);
                file.insertItem(leaf, 0, entry);
                file.putUnit(keyCell + KEY_LIST, leaf);
                return;
            }
            int number = leafNumberFor(keyCell, entry);
            int leaf = leafNumbered(keyCell, number);
            cells.markWritten(leaf);
            if (file.itemCount(leaf) < MAX_ENTRIES) {
                file.insertItem(leaf, entriesAhead(leaf, entry), entry);
            } else {
                int newLeaf = insertLeafBehind(keyCell, number, firstGot);
                splitLeaf(leaf, newLeaf, entry);
            }
        }

        /** Lets an entry go out; answers how many units are given back. */
        int takeOut(int keyCell, int entry) {
            cells.markWritten(keyCell);
            int number = leafNumberFor(keyCell, entry);
            int leaf = leafNumbered(keyCell, number);
            cells.markWritten(leaf);
            file.removeItem(leaf, entriesAhead(leaf, entry));
            if (file.itemCount(leaf) > 0) {
                return 0;
            }
            return cells.giveBack(leaf) + removeLeaf(keyCell, number);
        }

        private static int rankOf(int name) {
            return 7 * name % 64 * (MAX_NAME + 1) + name;
        }

        private int keyInLeaf(int leaf, int name) {
            int entries = file.itemCount(leaf);
            for (int i = 0; i < entries; i++) {
                int entry = file.item(leaf, i);
                if (entry / MAX_KEYS == rankOf(name)) {
                    return entry % MAX_KEYS;
                }
            }
            return NO_KEY;
        }

        private boolean isIndex(int list) {
            return read(file.sizes, list) == INDEX_SIZE;
        }

        private int leafNumbered(int keyCell, int number) {
            int list = file.unitAt(keyCell + KEY_LIST);
            return isIndex(list) ? file.item(list, number) : list;
        }

        private int leafNumberFor(int keyCell, int entry) {
            int leaves = leafCount(keyCell);
            int number = 0;
            for (int i = 1; i < leaves; i++) {
                if (file.item(leafNumbered(keyCell, i), 0) <= entry) {
                    number = i;
                }
            }
            return number;
        }

        private int entriesAhead(int leaf, int entry) {
            int entries = file.itemCount(leaf);
            int ahead = 0;
            for (int i = 0; i < entries; i++) {
                if (file.item(leaf, i) < entry) {
                    ahead++;
                }
            }
            return ahead;
        }

        private int insertLeafBehind(int keyCell, int number, int firstGot) {
            int list = file.unitAt(keyCell + KEY_LIST);
            int newLeafGot = firstGot;
            if (!isIndex(list)) {
                int index = cells.got(firstGot);
                file.putUnit(index, 0);
                file.insertItem(index, 0, list);
                file.putUnit(keyCell + KEY_LIST, index);
                list = index;
                newLeafGot++;
            }
            int newLeaf = cells.got(newLeafGot);
            file.insertItem(list, number + 1, newLeaf);
            cells.markWritten(list);
            return newLeaf;
        }

        /** Of a full leaf and one entry more, the first three stay, the others go. */
        private void splitLeaf(int leaf, int newLeaf, int entry) {
            int ahead = entriesAhead(leaf, entry);
            if (ahead < STAYING_ENTRIES) {
                file.moveItems(leaf, STAYING_ENTRIES - 1, newLeaf);
                file.insertItem(leaf, ahead, entry);
            } else {
                file.moveItems(leaf, STAYING_ENTRIES, newLeaf);
                file.insertItem(newLeaf, ahead - STAYING_ENTRIES, entry);
            }
        }

        private int removeLeaf(int keyCell, int number) {
            int list = file.unitAt(keyCell + KEY_LIST);
            if (!isIndex(list)) {
                file.putUnit(keyCell + KEY_LIST, NO_CELL);
                return 0;
            }
            file.removeItem(list, number);
            cells.markWritten(list);
            if (file.itemCount(list) > 1) {
                return 0;
            }
            file.putUnit(keyCell + KEY_LIST, file.item(list, 0));
            return cells.giveBack(list);
        }
    }

    /** The values of the keys, with their lists and their pieces. */
    private static final class Values {
        static final int VALUE_SIZE = 3;
        static final int VALUE_HEAD = 0;
        static final int VALUE_SEED = 1;
        static final int VALUE_PIECES = 2;
        static final int SHORT_LIST_SIZE = 5;
        static final int LONG_LIST_SIZE = 9;
        static final int MAX_VALUES = 8;
        static final int MAX_LENGTH_IN_CELL = 1;
        static final int PIECE_UNITS = 8;
        static final int PIECE_HEAD_SIZE = 2;
        static final int MAX_PIECES = 4;

        private final Image file;
        private final Cells cells;

        Values(Image file, Cells cells) {
            this.file = file;
            this.cells = cells;
        }

        int valueCount(int keyCell) {
            int list = file.unitAt(keyCell + KEY_VALUES);
            return list == NO_CELL ? 0 : file.itemCount(list);
        }

        int cellNamed(int keyCell, int name) {
            int count = valueCount(keyCell);
            for (int i = 0; i < count; i++) {
                int valueCell = cellNumbered(keyCell, i);
                if (file.unitAt(valueCell + VALUE_HEAD) / (MAX_LENGTH + 1) == name) {
                    return valueCell;
                }
            }
            return NO_CELL;
        }

        int lengthOf(int valueCell) {
            return file.unitAt(valueCell + VALUE_HEAD) % (MAX_LENGTH + 1);
        }

        int seedOf(int valueCell) {
            return file.unitAt(valueCell + VALUE_SEED);
        }

        int unitsOf(int keyCell) {
            int count = valueCount(keyCell);
            int sum = count == 0 ? 0 : file.sizeAt(file.unitAt(keyCell + KEY_VALUES));
            for (int i = 0; i < count; i++) {
                int valueCell = cellNumbered(keyCell, i);
                sum += file.sizeAt(valueCell);
                int piece = file.unitAt(valueCell + VALUE_PIECES);
                for (int p = 0; p < MAX_PIECES && piece != NO_CELL; p++) {
                    sum += file.sizeAt(piece);
                    piece = file.unitAt(piece);
                }
            }
            return sum;
        }

        boolean canHold(int keyCell, int name) {
            return valueCount(keyCell) < MAX_VALUES || cellNamed(keyCell, name) != NO_CELL;
        }

        /** Sets a value, in place of the one that there may be; false if there is no room. */
        boolean assign(int keyCell, int name, int length, int seed) {
            int valueCell = cellNamed(keyCell, name);
            boolean isNew = valueCell == NO_CELL;
            int pieces = pieceCount(length);
            cells.wantNothing();
            wantPieces(length, 0);
            if (isNew) {
                cells.want(VALUE_SIZE);
                wantListForOneMore(keyCell);
            }
            if (!cells.getAllWanted()) {
                return false;
            }
            int piecesBefore = NO_CELL;
            if (isNew) {
                valueCell = cells.got(pieces);
                addToList(keyCell, valueCell, cells.got(pieces + 1));
            } else {
                piecesBefore = file.unitAt(valueCell + VALUE_PIECES);
            }
            putHead(valueCell, name, length);
            file.putUnit(valueCell + VALUE_SEED, seed);
            chainPieces(valueCell + VALUE_PIECES, pieces);
            giveBackPieces(piecesBefore);
            cells.markWritten(valueCell);
            cells.markWritten(keyCell);
            return true;
        }

        /** Lets a value have another length; false if there is no room. */
        boolean changeLength(int keyCell, int valueCell, int length) {
            int kept = piecesAlike(lengthOf(valueCell), length);
            cells.wantNothing();
            wantPieces(length, kept);
            if (!cells.getAllWanted()) {
                return false;
            }
            int link = valueCell + VALUE_PIECES;
            for (int i = 0; i < kept; i++) {
                link = file.unitAt(link);
            }
            int piecesBefore = file.unitAt(link);
            chainPieces(link, pieceCount(length) - kept);
            giveBackPieces(piecesBefore);
            putHead(valueCell, file.unitAt(valueCell + VALUE_HEAD) / (MAX_LENGTH + 1), length);
            cells.markWritten(valueCell);
            cells.markWritten(keyCell);
            return true;
        }

        /** Drops a value; answers how many units are given back. */
        int drop(int keyCell, int valueCell) {
            int list = file.unitAt(keyCell + KEY_VALUES);
            int given = giveBackValue(valueCell);
            file.removeItem(list, file.numberOfItem(list, valueCell));
            cells.markWritten(list);
            cells.markWritten(keyCell);
            return given + (file.itemCount(list) > 0 ? 0 : giveBackList(keyCell));
        }

        /** Drops all values of a key; answers how many units are given back. */
        int dropAll(int keyCell) {
            int count = valueCount(keyCell);
            int given = 0;
            for (int i = 0; i < count; i++) {
                given += giveBackValue(cellNumbered(keyCell, i));
            }
            return given + (count == 0 ? 0 : giveBackList(keyCell));
        }

        private int cellNumbered(int keyCell, int number) {
            return file.item(file.unitAt(keyCell + KEY_VALUES), number);
        }

        private void putHead(int valueCell, int name, int length) {
            file.putUnit(valueCell + VALUE_HEAD, name * (MAX_LENGTH + 1) + length);
        }

        private static int pieceCount(int length) {
            return length <= MAX_LENGTH_IN_CELL ? 0 : (length + PIECE_UNITS - 1) / PIECE_UNITS;
        }

        private static int unitsInPiece(int length, int number) {
            return Math.min(PIECE_UNITS, length - PIECE_UNITS * number);
        }

        /** How many of the first pieces are as large for the one length as for the other. */
        private static int piecesAlike(int lengthBefore, int length) {
            int pieces = Math.min(pieceCount(lengthBefore), pieceCount(length));
            for (int i = 0; i < pieces; i++) {
                if (unitsInPiece(lengthBefore, i) != unitsInPiece(length, i)) {
                    return i;
                }
            }
            return pieces;
        }

        private void wantPieces(int length, int from) {
            int pieces = pieceCount(length);
            for (int i = from; i < pieces; i++) {
                cells.want(PIECE_HEAD_SIZE + unitsInPiece(length, i));
            }
        }

        /** Lets a link lead to the pieces that were got, one behind the other. */
        private void chainPieces(int link, int pieces) {
            int last = link;
            for (int i = 0; i < pieces; i++) {
                file.putUnit(last, cells.got(i));
                last = cells.got(i);
            }
            file.putUnit(last, NO_CELL);
        }

        private int giveBackPieces(int first) {
            int given = 0;
            int piece = first;
            for (int i = 0; i < MAX_PIECES && piece != NO_CELL; i++) {
                int next = file.unitAt(piece);
                given += cells.giveBack(piece);
                piece = next;
            }
            return given;
        }

        private int giveBackValue(int valueCell) {
            return giveBackPieces(file.unitAt(valueCell + VALUE_PIECES)) + cells.giveBack(valueCell);
        }

        private boolean needsListForOneMore(int keyCell) {
            int list = file.unitAt(keyCell + KEY_VALUES);
            return list == NO_CELL || 1 + file.itemCount(list) == file.sizeAt(list);
        }

        private void wantListForOneMore(int keyCell) {
            if (needsListForOneMore(keyCell)) {
                cells.want(valueCount(keyCell) == 0 ? SHORT_LIST_SIZE : LONG_LIST_SIZE);
            }
        }

        /** Adds a value to the list of a key; to a new list in the cell that was got, if need be. */
        private void addToList(int keyCell, int valueCell, int newList) {
            int list = file.unitAt(keyCell + KEY_VALUES);
            if (needsListForOneMore(keyCell)) {
                file.putUnit(newList, 0);
                if (list != NO_CELL) {
                    file.moveItems(list, 0, newList);
                    cells.giveBack(list);
                }
                file.putUnit(keyCell + KEY_VALUES, newList);
                list = newList;
            }
            file.insertItem(list, file.itemCount(list), valueCell);
            cells.markWritten(list);
        }

        private int giveBackList(int keyCell) {
            int list = file.unitAt(keyCell + KEY_VALUES);
            file.putUnit(keyCell + KEY_VALUES, NO_CELL);
            return cells.giveBack(list);
        }
    }

    /** The cells of the rights, which count the keys that have them. */
    private static final class Sharing {
        static final int RIGHTS_SIZE = 2;

        private final Image file;
        private final Cells cells;
        private final int[] isCounted = new int[MAX_RIGHTS + 1];

        Sharing(Image file, Cells cells) {
            this.file = file;
            this.cells = cells;
        }

        int keysWith(int rights) {
            int place = file.placeOfRights(rights);
            return place == NO_CELL ? 0 : file.unitAt(place);
        }

        /** Counts keys that come to have these rights, or come to have others. */
        void changeCount(int rights, int by) {
            int place = file.placeOfRights(rights);
            file.putUnit(place, file.unitAt(place) + by);
            cells.markWritten(place);
        }

        /** Lets one key more have these rights, which may be new; false if there is no room. */
        boolean join(int rights) {
            if (file.placeOfRights(rights) == NO_CELL) {
                cells.wantNothing();
                cells.want(RIGHTS_SIZE);
                if (!cells.getAllWanted()) {
                    return false;
                }
                file.setPlaceOfRights(rights, cells.got(0));
                file.putUnit(cells.got(0), 0);
            }
            changeCount(rights, 1);
            return true;
        }

        /** Lets one key less have these rights; answers how many units are given back. */
        int leave(int rights) {
            changeCount(rights, -1);
            if (keysWith(rights) > 0) {
                return 0;
            }
            int place = file.placeOfRights(rights);
            file.setPlaceOfRights(rights, NO_CELL);
            return cells.giveBack(place);
        }

        void startCounting() {
            Arrays.fill(isCounted, 0);
        }

        int unitsNotYetCounted(int rights) {
            int units = read(isCounted, rights) == 0 ? file.sizeAt(file.placeOfRights(rights)) : 0;
            store(isCounted, rights, 1);
            return units;
        }
    }

    /** The watches of the keys, with their notices in time. */
    private static final class Watches {
        private final int[] kindsWatched = new int[MAX_KEYS];
        private final int[] isDeep = new int[MAX_KEYS];
        /** The kind of which a watch was told, whether its notice was taken or not; 0 for none. */
        private final int[] kindTold = new int[MAX_KEYS];
        /** When the notice that is there was told; 0 if there is none. */
        private final int[] noticeTime = new int[MAX_KEYS];
        private int lastTime;

        boolean isWatched(int key) {
            return read(kindsWatched, key) != 0;
        }

        void start(int key, int kinds, boolean deep) {
            store(kindsWatched, key, kinds);
            store(isDeep, key, deep ? 1 : 0);
            store(kindTold, key, 0);
            store(noticeTime, key, 0);
        }

        void end(int key) {
            start(key, 0, false);
        }

        void endAll() {
            for (int key = 0; key < MAX_KEYS; key++) {
                end(key);
            }
        }

        void tell(int key, int kind, boolean isFromBelow) {
            boolean isMeant = (read(kindsWatched, key) & kind) != 0
                    && (read(isDeep, key) != 0 || !isFromBelow);
            if (isMeant && read(kindTold, key) == 0) {
                lastTime++;
                store(kindTold, key, kind);
                store(noticeTime, key, lastTime);
            }
        }

        int keyToldFirst() {
            int first = NO_KEY;
            for (int key = 0; key < MAX_KEYS; key++) {
                int time = read(noticeTime, key);
                if (time != 0 && (first == NO_KEY || time < read(noticeTime, first))) {
                    first = key;
                }
            }
            return first;
        }

        int takeKindTold(int key) {
            store(noticeTime, key, 0);
            return read(kindTold, key);
        }
    }

    /** The flush that is running, the last whole one, and the two logs. */
    private static final class Flushes {
        /** The writes beside those of the sectors: two of the log, two of the head. */
        static final int OTHER_WRITES = 4;

        private final Image whole = new Image();
        private final Image begun = new Image();
        private final int[] logs = new int[2];
        private int sectorsToWrite;
        private int writesDone;
        int wholeNumber;
        boolean isRunning;

        void keepAsWhole(Image file) {
            whole.copyFrom(file);
        }

        void begin(Image file, int sectors) {
            begun.copyFrom(file);
            sectorsToWrite = sectors;
            writesDone = 0;
            isRunning = true;
        }

        int writesLeft() {
            return 2 * sectorsToWrite + OTHER_WRITES - writesDone;
        }

        void advance(int writes) {
            writesDone += Math.min(writes, writesLeft());
            int number = wholeNumber + 1;
            store(logs, number % 2, isSealed() ? number : 0);
            if (writesLeft() == 0) {
                endWhole();
            }
        }

        int heldByLog(int log) {
            return read(logs, log);
        }

        /** Ends the flush that may be running, as a crash does. */
        void breakOff() {
            if (isRunning && isSealed()) {
                endWhole();
            }
            isRunning = false;
        }

        void restoreWhole(Image file) {
            file.copyFrom(whole);
        }

        /** The log is sealed by the write behind its beginning and its sectors. */
        private boolean isSealed() {
            return writesDone >= sectorsToWrite + 2;
        }

        private void endWhole() {
            whole.copyFrom(begun);
            wholeNumber++;
            isRunning = false;
        }
    }
}
