/** All promises: runs of calls on the program and on the model of the document, side by side. */
public final class ModelTest {
    private static final int CALLS = 512;
    private static final String[] NAMES = {"make", "makeLink", "rename", "delete", "setValue", "resize",
        "dropValue", "setRights", "", "", "find", "subkeyAt", "list", "follow", "unit", "sharers", "sectors",
        "cell", "place", "used", "usedByTree", "watch", "takeNotice", "dirty", "flush", "write", "log", "crash"};

    /** How often each call comes, in the order of NAMES; one row for each manner of use. */
    private static final int[][] MANNERS = {
        {9, 2, 5, 5, 9, 5, 4, 5, 0, 0, 3, 3, 3, 3, 3, 2, 1, 6, 2, 2, 2, 5, 5, 4, 2, 4, 2, 1},
        {30, 1, 6, 2, 0, 0, 0, 1, 0, 0, 2, 4, 4, 1, 0, 1, 1, 9, 2, 2, 2, 1, 1, 3, 1, 2, 1, 0},
        {4, 0, 0, 1, 40, 9, 2, 1, 0, 0, 0, 0, 0, 0, 4, 0, 2, 9, 2, 2, 2, 1, 1, 3, 1, 2, 1, 0},
        {6, 0, 2, 2, 5, 2, 2, 12, 0, 0, 0, 0, 0, 0, 1, 4, 1, 4, 1, 2, 2, 16, 16, 3, 1, 2, 1, 0},
        {8, 12, 2, 3, 1, 0, 0, 0, 0, 0, 1, 1, 2, 12, 0, 0, 1, 2, 1, 1, 1, 1, 1, 1, 1, 1, 1, 0},
        {9, 2, 4, 4, 9, 5, 4, 5, 0, 0, 2, 1, 2, 2, 2, 2, 2, 3, 2, 1, 1, 1, 2, 9, 9, 25, 9, 6},
        {30, 1, 4, 1, 60, 5, 1, 9, 0, 0, 0, 0, 1, 0, 1, 1, 3, 9, 1, 2, 2, 1, 1, 9, 3, 5, 1, 0},
    };

    private static long state;

    public static void main(String[] args) {
        int runs = args.length > 0 ? Integer.parseInt(args[0]) : 1200;
        int wrong = 0;
        for (int run = 0; run < runs && wrong < 3; run++) {
            wrong += oneRun(run) ? 0 : 1;
        }
        System.out.println("ModelTest: " + (wrong == 0 ? "all as due" : "not all as due"));
        if (wrong != 0) {
            System.exit(1);
        }
    }

    private static boolean oneRun(int run) {
        state = run * 7919L + 17;
        int[] manner = MANNERS[run % MANNERS.length];
        int keyRange = 1 + below(run % 4 == 0 ? 3 : 80); // few keys get long lists
        int nameRange = run % 3 == 0 ? 40 : 10000;
        int valueRange = 3 + below(10);
        boolean isLong = run % 3 == 1;
        HiveKeys x = new HiveKeys();
        Model model = new Model();
        StringBuilder told = new StringBuilder();
        for (int i = 0; i < CALLS; i++) {
            int[] call = pick(manner, Math.min(keyRange, model.nextKey()), nameRange, valueRange, isLong);
            String due = model.call(call);
            String got = answer(x, call);
            told.append(NAMES[call[0]]).append(' ').append(call[1]).append(' ').append(call[2]).append(' ')
                .append(call[3]).append(' ').append(call[4]).append(" -> ").append(got).append('\n');
            if (!due.equals(got)) {
                System.out.println("run " + run + ", call " + i + ", due is " + due + ":\n" + told);
                return false;
            }
        }
        return true;
    }

    /** A repeatable row of numbers, for all tests the same. */
    private static int below(int bound) {
        state = state * 6364136223846793005L + 1442695040888963407L;
        return (int) ((state >>> 33) % bound);
    }

    private static int[] pick(int[] manner, int keyRange, int nameRange, int valueRange,
            boolean isLong) {
        int sum = 0;
        for (int weight : manner) {
            sum += weight;
        }
        int at = below(sum);
        int call = 0;
        for (; at >= manner[call]; call++) {
            at -= manner[call];
        }
        int key = number(keyRange);
        switch (call) {
            case 0: case 2: case 10: return row(call, key, number(nameRange), 0, 0);
            case 1: return row(call, key, number(nameRange), number(keyRange), 0);
            case 4: return row(call, key, number(valueRange), length(isLong), below(1 << 30) * 4 + below(4));
            case 5: return row(call, key, number(valueRange), length(isLong), 0);
            case 6: return row(call, key, number(valueRange), 0, 0);
            case 7: return row(call, key, number(below(3) == 0 ? 256 : 4), 0, 0);
            case 11: return row(call, key, number(below(2) == 0 ? 4 : 33), 0, 0);
            case 14: return row(call, key, number(valueRange), number(below(2) == 0 ? 3 : 31), 0);
            case 15: return row(call, number(below(2) == 0 ? 256 : 4), 0, 0, 0);
            case 17: return row(call, number(below(2) == 0 ? 64 : 1025), 0, 0, 0);
            case 21: return row(call, key, number(9), below(2), 0);
            case 25: return row(call, below(3) == 0 ? below(202) : below(6), 0, 0, 0);
            case 26: return row(call, number(3), 0, 0, 0);
            default: return row(call, key, 0, 0, 0);
        }
    }

    private static int[] row(int... numbers) {
        return numbers;
    }

    /** Mostly in range; now and then one beside it, or a very far one. */
    private static int number(int range) {
        int odd = below(60);
        int[] far = {-1, range, Integer.MIN_VALUE, Integer.MAX_VALUE};
        return odd < far.length ? far[odd] : below(range);
    }

    private static int length(boolean isLong) {
        int kind = isLong && below(8) > 0 ? 1 : below(4);
        return kind == 0 ? number(31) : kind == 1 ? 30 - below(8) : kind == 2 ? below(3) : 8 * below(4);
    }

    private static String answer(HiveKeys x, int[] c) {
        try {
            return "" + number(x, c);
        } catch (RuntimeException e) {
            // What the machine throws is of a class below the document's, and so has another name.
            return "throws." + e.getClass().getSimpleName();
        }
    }

    private static long number(HiveKeys x, int[] c) {
        switch (c[0]) {
            case 0: return x.make(c[1], c[2]);
            case 1: return x.makeLink(c[1], c[2], c[3]);
            case 2: return x.rename(c[1], c[2]);
            case 3: return x.delete(c[1]);
            case 4: return x.setValue(c[1], c[2], c[3], c[4]);
            case 5: return x.resize(c[1], c[2], c[3]);
            case 6: return x.dropValue(c[1], c[2]);
            case 7: return x.setRights(c[1], c[2]);
            case 10: return x.find(c[1], c[2]);
            case 11: return x.subkeyAt(c[1], c[2]);
            case 12: return x.list(c[1]);
            case 13: return x.follow(c[1]);
            case 14: return x.unit(c[1], c[2], c[3]);
            case 15: return x.sharers(c[1]);
            case 16: return x.sectors();
            case 17: return x.cell(c[1]);
            case 18: return x.place(c[1]);
            case 19: return x.used();
            case 20: return x.usedByTree();
            case 21: return x.watch(c[1], c[2], c[3] != 0) ? 1 : 0;
            case 22: return x.takeNotice();
            case 23: return x.dirty();
            case 24: return x.flush();
            case 25: return x.write(c[1]);
            case 26: return x.log(c[1]);
            default: return x.crash();
        }
    }
}
