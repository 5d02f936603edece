/**
 * The program, with its calls counted: the document promises nothing of an object behind its 512th
 * call, so no test may ask more.
 */
final class Counted {
    private static final int MOST_CALLS = 512;

    private final HiveKeys registry = new HiveKeys();
    private int calls = 0;

    private HiveKeys called() {
        calls++;
        if (calls > MOST_CALLS) {
            throw new AssertionError("a test asks more than " + MOST_CALLS + " calls of an object");
        }
        return registry;
    }

    int calls() {
        return calls;
    }

    int make(int key, int name) {
        return called().make(key, name);
    }

    int makeLink(int key, int name, int target) {
        return called().makeLink(key, name, target);
    }

    int rename(int key, int name) {
        return called().rename(key, name);
    }

    int delete(int key) {
        return called().delete(key);
    }

    int find(int key, int name) {
        return called().find(key, name);
    }

    int subkeyAt(int key, int index) {
        return called().subkeyAt(key, index);
    }

    int list(int key) {
        return called().list(key);
    }

    int follow(int key) {
        return called().follow(key);
    }

    int setValue(int key, int name, int length, int seed) {
        return called().setValue(key, name, length, seed);
    }

    int resize(int key, int name, int length) {
        return called().resize(key, name, length);
    }

    int dropValue(int key, int name) {
        return called().dropValue(key, name);
    }

    int unit(int key, int name, int unit) {
        return called().unit(key, name, unit);
    }

    int setRights(int key, int rights) {
        return called().setRights(key, rights);
    }

    int sharers(int rights) {
        return called().sharers(rights);
    }

    int sectors() {
        return called().sectors();
    }

    int cell(int unit) {
        return called().cell(unit);
    }

    int place(int key) {
        return called().place(key);
    }

    int used() {
        return called().used();
    }

    int usedByTree() {
        return called().usedByTree();
    }

    boolean watch(int key, int kinds, boolean isDeep) {
        return called().watch(key, kinds, isDeep);
    }

    int takeNotice() {
        return called().takeNotice();
    }

    long dirty() {
        return called().dirty();
    }

    int flush() {
        return called().flush();
    }

    int write(int writes) {
        return called().write(writes);
    }

    int log(int log) {
        return called().log(log);
    }

    int crash() {
        return called().crash();
    }
}
