import java.util.ArrayList;
import java.util.Collections;
import java.util.Comparator;
import java.util.HashMap;
import java.util.List;
import java.util.Map;
import java.util.TreeMap;

/**
 * The document once more, in another way than the program's: the file is a row of units that tell
 * their cell, what is in the cells are objects, and a crash makes a new registry and does the calls
 * again that the last whole flush is of. A call answers a text: a number, or "throws.X".
 */
final class Model {
    private static final String INDEX = "throws.IndexOutOfBoundsException";
    private static final String ARGUMENT = "throws.IllegalArgumentException";
    private static final String STATE = "throws.IllegalStateException";

    private static final class Cell {
        final int begin;
        final int size;

        Cell(int begin, int size) {
            this.begin = begin;
            this.size = size;
        }
    }

    private static final class Leaf {
        Cell cell;
        final List<Key> keys = new ArrayList<>();
    }

    private static final class Value {
        Cell cell;
        int name;
        int length;
        int seed;
        List<Cell> pieces = new ArrayList<>();
    }

    private static final class Key {
        int number;
        int name;
        Key parent;
        int target = -1;
        int rights;
        Cell cell;
        Cell index;
        Cell valueList;
        final List<Leaf> leaves = new ArrayList<>();
        final List<Value> values = new ArrayList<>();
    }

    private static final class Watch {
        int kinds;
        boolean isDeep;
        boolean isTold;
    }

    /** The cell of each unit; null if it is free. */
    private List<Cell> units;
    private TreeMap<Integer, Key> keys;
    private Map<Integer, Cell> rightsCells;
    private int nextKey;
    private long dirty;
    /** The calls that made the registry what it is. */
    private List<int[]> history = new ArrayList<>();
    private final Map<Integer, Watch> watches = new HashMap<>();
    private final List<int[]> notices = new ArrayList<>();

    private List<int[]> whole = new ArrayList<>();
    private List<int[]> begun;
    private int wholeNumber;
    private List<String> writesToCome;
    private boolean isSealed;
    private final int[] logs = new int[2];
    private boolean isReplaying;

    Model() {
        startAnew();
    }

    private void startAnew() {
        units = new ArrayList<>(Collections.nCopies(16, (Cell) null));
        keys = new TreeMap<>();
        rightsCells = new HashMap<>();
        nextKey = 1;
        Key root = new Key();
        root.cell = getOne(6);
        rightsCells.put(0, getOne(2));
        keys.put(0, root);
        dirty = 0;
    }

    int nextKey() {
        return nextKey;
    }

    // ---- units

    private Cell getOne(int size) {
        for (;;) {
            int run = 0;
            for (int u = 4; u < units.size(); u++) {
                run = units.get(u) == null ? run + 1 : 0;
                boolean isRunOver = u + 1 == units.size() || units.get(u + 1) != null;
                if (isRunOver && run >= size) {
                    Cell cell = new Cell(u + 1 - run, size);
                    for (int i = 0; i < size; i++) {
                        units.set(cell.begin + i, cell);
                    }
                    return cell;
                }
            }
            if (units.size() == 64 * 16) {
                return null;
            }
            units.addAll(Collections.nCopies(16, (Cell) null));
        }
    }

    private List<Cell> getAll(List<Integer> sizes) {
        List<Cell> before = new ArrayList<>(units);
        List<Cell> got = new ArrayList<>();
        for (int size : sizes) {
            Cell cell = getOne(size);
            if (cell == null) {
                units = before;
                return null;
            }
            got.add(cell);
        }
        got.forEach(this::written);
        return got;
    }

    private int give(Cell cell) {
        if (cell == null) {
            return 0;
        }
        written(cell);
        for (int i = 0; i < cell.size; i++) {
            units.set(cell.begin + i, null);
        }
        return cell.size;
    }

    private void written(Cell cell) {
        for (int i = 0; cell != null && i < cell.size; i++) {
            dirty |= 1L << ((cell.begin + i) / 16);
        }
    }

    // ---- calls

    String call(int[] c) {
        String answer = answer(c);
        if (c[0] < 10 && !answer.startsWith("throws")) {
            history.add(c);
        }
        return answer;
    }

    private String answer(int[] c) {
        switch (c[0]) {
            case 0: return make(c[1], c[2], -1);
            case 1: return keys.containsKey(c[3]) ? make(c[1], c[2], c[3]) : INDEX;
            case 2: return rename(c[1], c[2]);
            case 3: return delete(c[1]);
            case 4: return setValue(c[1], c[2], c[3], c[4]);
            case 5: return resize(c[1], c[2], c[3]);
            case 6: return dropValue(c[1], c[2]);
            case 7: return setRights(c[1], c[2]);
            case 10: return find(c[1], c[2]);
            case 11: return subkeyAt(c[1], c[2]);
            case 12: return list(c[1]);
            case 13: return follow(c[1]);
            case 14: return unit(c[1], c[2], c[3]);
            case 15: return sharers(c[1]);
            case 16: return "" + units.size() / 16;
            case 17: return cell(c[1]);
            case 18: return keys.containsKey(c[1]) ? "" + keys.get(c[1]).cell.begin : INDEX;
            case 19: case 20: return "" + (units.stream().filter(u -> u != null).count());
            case 21: return watch(c[1], c[2], c[3] != 0);
            case 22: return takeNotice();
            case 23: return "" + dirty;
            case 24: return flush();
            case 25: return write(c[1]);
            case 26: return c[1] == 0 || c[1] == 1 ? "" + logs[c[1]] : ARGUMENT;
            default: return crash();
        }
    }

    private static boolean isName(int name) {
        return 0 <= name && name <= 9999;
    }

    private static Comparator<Key> order() {
        return Comparator.<Key>comparingInt(k -> k.name * 7 % 64).thenComparingInt(k -> k.name);
    }

    private List<Key> subkeys(Key key) {
        List<Key> all = new ArrayList<>();
        key.leaves.forEach(leaf -> all.addAll(leaf.keys));
        return all;
    }

    private Key named(Key key, int name) {
        return subkeys(key).stream().filter(k -> k.name == name).findAny().orElse(null);
    }

    private Leaf leafFor(Key parent, Key entry) {
        Leaf found = parent.leaves.isEmpty() ? null : parent.leaves.get(0);
        for (Leaf leaf : parent.leaves) {
            if (order().compare(leaf.keys.get(0), entry) < 0) {
                found = leaf;
            }
        }
        return found;
    }

    /** The sizes that a list needs for an entry; null if it is full. */
    private List<Integer> needs(Key parent, Key entry) {
        if (parent.leaves.isEmpty()) {
            return List.of(5);
        }
        if (leafFor(parent, entry).keys.size() < 4) {
            return List.of();
        }
        if (parent.leaves.size() == 8) {
            return null;
        }
        return parent.leaves.size() == 1 ? List.of(9, 5) : List.of(5);
    }

    private void comeIn(Key parent, Key entry, List<Cell> got) {
        written(parent.cell);
        Leaf leaf = leafFor(parent, entry);
        if (leaf == null) {
            leaf = new Leaf();
            leaf.cell = got.get(0);
            parent.leaves.add(leaf);
        }
        leaf.keys.add(entry);
        leaf.keys.sort(order());
        written(leaf.cell);
        if (leaf.keys.size() == 5) {
            if (parent.index == null) {
                parent.index = got.get(0);
            }
            Leaf behind = new Leaf();
            behind.cell = got.get(got.size() - 1);
            behind.keys.add(leaf.keys.remove(3));
            behind.keys.add(leaf.keys.remove(3));
            parent.leaves.add(parent.leaves.indexOf(leaf) + 1, behind);
            written(parent.index);
        }
    }

    private int goOut(Key parent, Key entry) {
        written(parent.cell);
        int given = 0;
        for (Leaf leaf : new ArrayList<>(parent.leaves)) {
            if (leaf.keys.remove(entry)) {
                written(leaf.cell);
                if (leaf.keys.isEmpty()) {
                    parent.leaves.remove(leaf);
                    written(parent.index);
                    given += give(leaf.cell);
                    if (parent.leaves.size() == 1) {
                        given += give(parent.index);
                        parent.index = null;
                    }
                }
            }
        }
        return given;
    }

    private String make(int number, int name, int target) {
        Key parent = keys.get(number);
        if (parent == null) {
            return INDEX;
        }
        if (!isName(name)) {
            return ARGUMENT;
        }
        if (parent.target >= 0 || named(parent, name) != null || nextKey == 80) {
            return STATE;
        }
        Key key = new Key();
        key.name = name;
        key.parent = parent;
        key.target = target;
        key.rights = parent.rights;
        key.number = nextKey;
        List<Integer> more = needs(parent, key);
        if (more == null) {
            return STATE;
        }
        List<Integer> sizes = new ArrayList<>(List.of(6));
        sizes.addAll(more);
        List<Cell> got = getAll(sizes);
        if (got == null) {
            return STATE;
        }
        key.cell = got.get(0);
        keys.put(nextKey++, key);
        written(rightsCells.get(key.rights));
        comeIn(parent, key, got.subList(1, got.size()));
        change(parent, 1);
        return "" + key.number;
    }

    private String rename(int number, int name) {
        Key key = keys.get(number);
        if (key == null) {
            return INDEX;
        }
        if (!isName(name)) {
            return ARGUMENT;
        }
        if (number == 0 || named(key.parent, name) != null) {
            return STATE;
        }
        // Another key stands for the entry of the new name until the old one has gone.
        Key entry = new Key();
        entry.name = name;
        List<Integer> sizes = needs(key.parent, entry);
        List<Cell> got = sizes == null ? null : getAll(sizes);
        if (got == null) {
            return STATE;
        }
        comeIn(key.parent, entry, got);
        goOut(key.parent, key);
        int before = key.name;
        key.name = name;
        key.parent.leaves.forEach(leaf -> Collections.replaceAll(leaf.keys, entry, key));
        written(key.cell);
        change(key.parent, 1);
        return "" + before;
    }

    private String delete(int number) {
        Key key = keys.get(number);
        if (key == null) {
            return INDEX;
        }
        if (number == 0 || !key.leaves.isEmpty()) {
            return STATE;
        }
        int given = 0;
        for (Value value : key.values) {
            for (Cell piece : value.pieces) {
                given += give(piece);
            }
            given += give(value.cell);
        }
        given += give(key.valueList) + give(key.cell);
        keys.remove(number);
        given += leaveRights(key.rights);
        given += goOut(key.parent, key);
        watches.remove(number);
        notices.removeIf(n -> n[0] == number);
        change(key.parent, 1);
        return "" + given;
    }

    private String find(int number, int name) {
        if (!keys.containsKey(number)) {
            return INDEX;
        }
        if (!isName(name)) {
            return ARGUMENT;
        }
        Key found = named(keys.get(number), name);
        return found == null ? "-1" : "" + found.number;
    }

    private String subkeyAt(int number, int index) {
        if (!keys.containsKey(number)) {
            return INDEX;
        }
        List<Key> all = subkeys(keys.get(number));
        all.sort(order());
        return 0 <= index && index < all.size() ? "" + all.get(index).number : INDEX;
    }

    private String list(int number) {
        Key key = keys.get(number);
        return key == null ? INDEX : "" + (10 * subkeys(key).size() + key.leaves.size());
    }

    private String follow(int number) {
        return keys.containsKey(number) ? "" + follow(number, 4) : INDEX;
    }

    private int follow(int number, int links) {
        Key key = keys.get(number);
        if (key == null) {
            return -1;
        }
        if (key.target < 0) {
            return number;
        }
        return links == 0 ? -1 : follow(key.target, links - 1);
    }

    private static Value valueOf(Key key, int name) {
        return key == null ? null
                : key.values.stream().filter(v -> v.name == name).findAny().orElse(null);
    }

    private static List<Integer> pieceSizes(int length) {
        List<Integer> sizes = new ArrayList<>();
        for (int left = length < 2 ? 0 : length; left > 0; left -= 8) {
            sizes.add(Math.min(left, 8) + 2);
        }
        return sizes;
    }

    private String setValue(int number, int name, int length, int seed) {
        Key key = keys.get(number);
        if (key == null) {
            return INDEX;
        }
        if (name < 0 || name > 99 || length < 0 || length > 30) {
            return ARGUMENT;
        }
        Value value = valueOf(key, name);
        boolean isNew = value == null;
        int count = key.values.size() + (isNew ? 1 : 0);
        if (key.target >= 0 || count == 9) {
            return STATE;
        }
        List<Integer> sizes = pieceSizes(length);
        int pieces = sizes.size();
        if (isNew) {
            sizes.add(3);
        }
        boolean isListGot = key.valueList == null || count == 5 && key.valueList.size == 5;
        if (isListGot) {
            sizes.add(key.valueList == null ? 5 : 9);
        }
        List<Cell> got = getAll(sizes);
        if (got == null) {
            return STATE;
        }
        if (isNew) {
            value = new Value();
            value.name = name;
            value.cell = got.get(pieces);
            key.values.add(value);
        }
        value.pieces.forEach(this::give);
        value.pieces = new ArrayList<>(got.subList(0, pieces));
        value.length = length;
        value.seed = seed;
        if (isListGot) {
            give(key.valueList);
            key.valueList = got.get(got.size() - 1);
        }
        if (isNew) {
            written(key.valueList);
        }
        written(value.cell);
        written(key.cell);
        change(key, 2);
        return "" + count;
    }

    private String resize(int number, int name, int length) {
        Key key = keys.get(number);
        Value value = valueOf(key, name);
        if (value == null) {
            return INDEX;
        }
        if (length < 0 || length > 30) {
            return ARGUMENT;
        }
        List<Integer> sizes = pieceSizes(length);
        int kept = 0;
        while (kept < sizes.size() && kept < value.pieces.size()
                && value.pieces.get(kept).size == sizes.get(kept)) {
            kept++;
        }
        List<Cell> got = getAll(sizes.subList(kept, sizes.size()));
        if (got == null) {
            return STATE;
        }
        List<Cell> former = value.pieces.subList(kept, value.pieces.size());
        former.forEach(this::give);
        former.clear();
        value.pieces.addAll(got);
        int before = value.length;
        value.length = length;
        written(value.cell);
        written(key.cell);
        change(key, 2);
        return "" + before;
    }

    private String dropValue(int number, int name) {
        Key key = keys.get(number);
        Value value = valueOf(key, name);
        if (value == null) {
            return INDEX;
        }
        int given = 0;
        for (Cell piece : value.pieces) {
            given += give(piece);
        }
        given += give(value.cell);
        key.values.remove(value);
        written(key.valueList);
        written(key.cell);
        if (key.values.isEmpty()) {
            given += give(key.valueList);
            key.valueList = null;
        }
        change(key, 2);
        return "" + given;
    }

    private String unit(int number, int name, int unit) {
        Value value = valueOf(keys.get(number), name);
        return value == null || unit < 0 || unit >= value.length ? INDEX : "" + (31 * value.seed + 17 * unit);
    }

    private String setRights(int number, int rights) {
        Key key = keys.get(number);
        if (key == null) {
            return INDEX;
        }
        if (rights < 0 || rights > 255) {
            return ARGUMENT;
        }
        int before = key.rights;
        if (before != rights) {
            if (!rightsCells.containsKey(rights)) {
                List<Cell> got = getAll(List.of(2));
                if (got == null) {
                    return STATE;
                }
                rightsCells.put(rights, got.get(0));
            }
            key.rights = rights;
            written(rightsCells.get(rights));
            leaveRights(before);
            written(key.cell);
            change(key, 4);
        }
        return "" + before;
    }

    private int leaveRights(int rights) {
        written(rightsCells.get(rights));
        boolean isHad = keys.values().stream().anyMatch(k -> k.rights == rights);
        return isHad ? 0 : give(rightsCells.remove(rights));
    }

    private String sharers(int rights) {
        if (rights < 0 || rights > 255) {
            return ARGUMENT;
        }
        return "" + keys.values().stream().filter(k -> k.rights == rights).count();
    }

    private String cell(int unit) {
        if (unit < 0 || unit >= units.size()) {
            return INDEX;
        }
        Cell cell = units.get(unit);
        if (unit < 4 || unit > 4 && units.get(unit - 1) == cell) {
            return "0";
        }
        int size = 1;
        while (unit + size < units.size() && units.get(unit + size) == cell) {
            size++;
        }
        return "" + (cell == null ? -size : size);
    }

    // ---- watches

    private String watch(int number, int kinds, boolean isDeep) {
        if (!keys.containsKey(number)) {
            return INDEX;
        }
        if (kinds < 1 || kinds > 7) {
            return ARGUMENT;
        }
        Watch watch = new Watch();
        watch.kinds = kinds;
        watch.isDeep = isDeep;
        notices.removeIf(n -> n[0] == number);
        return watches.put(number, watch) == null ? "1" : "0";
    }

    private void change(Key key, int kind) {
        for (Key k = key; k != null && !isReplaying; k = k.parent) {
            Watch watch = watches.get(k.number);
            if (watch != null && (k == key || watch.isDeep) && !watch.isTold && (watch.kinds & kind) != 0) {
                watch.isTold = true;
                notices.add(new int[] {k.number, kind});
            }
        }
    }

    private String takeNotice() {
        if (notices.isEmpty()) {
            return "-1";
        }
        int[] notice = notices.remove(0);
        return "" + (10 * notice[0] + notice[1]);
    }

    // ---- flushes

    private String flush() {
        if (begun != null || dirty == 0) {
            return STATE;
        }
        int k = Long.bitCount(dirty);
        begun = new ArrayList<>(history);
        writesToCome = new ArrayList<>();
        writesToCome.add("open");
        writesToCome.addAll(Collections.nCopies(k, "log"));
        writesToCome.add("seal");
        writesToCome.add("head");
        writesToCome.addAll(Collections.nCopies(k, "file"));
        writesToCome.add("end");
        isSealed = false;
        dirty = 0;
        return "" + writesToCome.size();
    }

    private String write(int writes) {
        if (writes < 1 || writes > 200) {
            return ARGUMENT;
        }
        if (begun == null) {
            return STATE;
        }
        int number = wholeNumber + 1;
        for (int i = 0; i < writes && !writesToCome.isEmpty(); i++) {
            String write = writesToCome.remove(0);
            if (write.equals("open")) {
                logs[number % 2] = 0;
            } else if (write.equals("seal")) {
                logs[number % 2] = number;
                isSealed = true;
            }
        }
        int left = writesToCome.size();
        if (left == 0) {
            becomeWhole();
        }
        return "" + left;
    }

    private void becomeWhole() {
        whole = begun;
        begun = null;
        wholeNumber++;
    }

    private String crash() {
        if (begun != null && isSealed) {
            becomeWhole();
        }
        begun = null;
        startAnew();
        isReplaying = true;
        for (int[] c : whole) {
            answer(c);
        }
        isReplaying = false;
        history = new ArrayList<>(whole);
        dirty = 0;
        watches.clear();
        notices.clear();
        return "" + wholeNumber;
    }
}
