/** Registries that several tests begin with; each call makes one anew, by the same calls. */
final class Builds {
    private Builds() {
    }

    /** The sums of nameOfSum(0), nameOfSum(1), .. are 0, 1, .. 63, as 7 * 55 is 6 * 64 + 1. */
    static int nameOfSum(int sum) {
        return 55 * sum % 64;
    }

    /** The keys 1, 2, .. below the root, with names of these sums. */
    static Counted withSums(int... sums) {
        Counted x = new Counted();
        for (int sum : sums) {
            x.make(0, nameOfSum(sum));
        }
        return x;
    }

    /** The root's list with 25 subkeys: seven leaves of 3, and the last one of 4; the sums are even. */
    static Counted withEightLeaves() {
        Counted x = new Counted();
        for (int i = 0; i < 25; i++) {
            x.make(0, nameOfSum(2 * i));
        }
        return x;
    }

    /** The root's list as large as one can be: eight leaves of 4. */
    static Counted withFullList() {
        Counted x = withEightLeaves();
        for (int leaf = 0; leaf < 7; leaf++) {
            x.make(0, nameOfSum(6 * leaf + 1));
        }
        return x;
    }

    /** Keys 1, 2, .. each below the one before, all with the name 0. */
    static Counted chain(int keys) {
        Counted x = new Counted();
        for (int key = 1; key <= keys; key++) {
            x.make(key - 1, 0);
        }
        return x;
    }

    /** The key 1, and the links 2, 3, .. each to the one before. */
    static Counted links(int links) {
        Counted x = new Counted();
        x.make(0, 0);
        for (int link = 1; link <= links; link++) {
            x.makeLink(0, link, link);
        }
        return x;
    }

    /** The root has the values 0, 1, .. of the length 0. */
    static Counted withValues(int values) {
        Counted x = new Counted();
        for (int name = 0; name < values; name++) {
            x.setValue(0, name, 0, name);
        }
        return x;
    }

    /**
     * A little of all: the keys 1 and 4 below it, the link 3 to the key 1, a key 2 that was deleted,
     * values, rights, a whole flush and one that is running, dirty sectors, watches that were told or
     * not, and two notices.
     */
    static Counted rich() {
        Counted x = new Counted();
        x.make(0, 1);
        x.make(0, 2);
        x.makeLink(0, 3, 1);
        x.make(1, 4);
        x.delete(2);
        x.setValue(1, 0, 20, 7);
        x.setValue(1, 1, 0, -5);
        x.setValue(0, 5, 9, 3);
        x.setRights(4, 9);
        x.watch(0, 7, true);
        x.watch(1, 2, false);
        x.watch(3, 7, false);
        x.watch(4, 4, false);
        Check.flushWhole(x);
        x.setRights(4, 10);
        x.takeNotice();
        x.flush();
        x.write(3);
        x.setValue(1, 2, 1, 1);
        return x;
    }

    /**
     * A file in which this many units, 0 to 40, can still be got, side by side at its end, those of
     * the sectors by which it can grow among them. The root has a full leaf with the keys 1 to 4, the
     * key 1 has the subkey 5, and this the subkey 6. The root and the keys 1 to 3 have the values 0
     * to 3, so that one more needs a longer list; the key 5 has the values 0 and 1, the key 6 the
     * value 0, all of the length 30.
     */
    static Counted withRoom(int units) {
        Counted x = new Counted();
        for (int name = 1; name <= 4; name++) {
            x.make(0, name);
        }
        x.make(1, 0);
        x.make(5, 0);
        int[] values = {4, 4, 4, 4, 2, 2, 1};
        int used = 6 + 2 + 6 * 6 + 3 * 5;
        for (int key = 0; key < values.length; key++) {
            for (int name = 0; name < values[key]; name++) {
                x.setValue(key, name, 30, 0);
            }
            used += 5 + values[key] * unitsFor(30);
        }
        fill(x, 64 * 16 - 4 - used - units);
        return x;
    }

    /** Fills up units of the file by two more values of the key 4, and by other rights of it. */
    private static void fill(Counted x, int units) {
        for (int first = 0; first <= 30; first++) {
            for (int second = 0; second <= first; second++) {
                int rest = units - unitsFor(first) - unitsFor(second);
                if (rest == 0 || rest == 2) {
                    x.setValue(4, 2, first, 0);
                    x.setValue(4, 3, second, 0);
                    x.setRights(4, rest == 2 ? 255 : 0);
                    return;
                }
            }
        }
        Check.fail("a file can't be filled by " + units + " units");
    }

    /** The units that a value of this length takes, without the value list. */
    private static int unitsFor(int length) {
        return 3 + (length < 2 ? 0 : length + 2 * ((length + 7) / 8));
    }
}
