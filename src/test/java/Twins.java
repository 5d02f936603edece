import java.util.List;
import java.util.function.Function;
import java.util.function.Supplier;

/**
 * A call that throws changes nothing: of two registries built alike, the one that has refused a call
 * must answer like the other one whatever it is asked then. As asking takes calls, and some questions
 * change what others ask, each kind of question has two registries of its own.
 */
final class Twins {
    interface Call {
        long on(Counted x);
    }

    interface KeyCall {
        long on(Counted x, int key);
    }

    private static final List<Function<Counted, String>> QUESTIONS = List.of(Twins::askFile, Twins::askKeys,
            Twins::askValues, Twins::askRights, Twins::askWatches, Twins::askFlush, Twins::askCrash);

    private static final int MOST_KEYS_ASKED = 12;

    private Twins() {
    }

    static void index(String call, Supplier<Counted> build, Call made) {
        Check.throwsIndex(call, () -> made.on(build.get()));
        staysAsItIs(call, build, made);
    }

    static void argument(String call, Supplier<Counted> build, Call made) {
        Check.throwsArgument(call, () -> made.on(build.get()));
        staysAsItIs(call, build, made);
    }

    static void state(String call, Supplier<Counted> build, Call made) {
        Check.throwsState(call, () -> made.on(build.get()));
        staysAsItIs(call, build, made);
    }

    /** In Builds.rich() there are the keys 0, 1, 3 and 4, and there was a key 2. */
    static void noSuchKey(String call, KeyCall made) {
        for (int key : new int[] {Integer.MIN_VALUE, -80, -1, 2, 5, 79, 80, Integer.MAX_VALUE}) {
            index(call + " of the key " + key, Builds::rich, x -> made.on(x, key));
        }
    }

    /** The numbers on either side of a range, and the farthest ones. */
    static void outOfRange(String call, int least, int greatest, KeyCall made) {
        for (int number : new int[] {Integer.MIN_VALUE, least - 1, greatest + 1, Integer.MAX_VALUE}) {
            argument(call + " with " + number, Builds::rich, x -> made.on(x, number));
        }
    }

    private static void staysAsItIs(String call, Supplier<Counted> build, Call made) {
        for (Function<Counted, String> question : QUESTIONS) {
            Counted refusing = build.get();
            answer(() -> made.on(refusing));
            String got = question.apply(refusing);
            String due = question.apply(build.get());
            if (!got.equals(due)) {
                Check.fail(call + " changed the registry; its answers then are\n  " + got + "\nand were\n  " + due);
            }
        }
    }

    private static String answer(Check.Call call) {
        try {
            return call.answer() + " ";
        } catch (RuntimeException e) {
            return e.getClass().getSimpleName() + " ";
        }
    }

    private static String askFile(Counted x) {
        return Check.fileOf(x) + " used " + x.used() + " " + x.usedByTree() + " logs " + x.log(0) + " " + x.log(1);
    }

    private static String askKeys(Counted x) {
        StringBuilder text = new StringBuilder();
        int missing = 0;
        for (int key = 0; missing < 3; key++) {
            int asked = key;
            String list = answer(() -> x.list(asked));
            text.append(key).append(": ").append(list);
            missing += list.startsWith("I") ? 1 : 0;
            if (!list.startsWith("I")) {
                text.append(x.place(key)).append(' ').append(x.follow(key)).append(' ');
                for (int i = 0; i < Integer.parseInt(list.trim()) / 10; i++) {
                    text.append(x.subkeyAt(key, i)).append(' ');
                }
            }
        }
        return text.toString();
    }

    private static String askValues(Counted x) {
        StringBuilder text = new StringBuilder();
        for (int asked = 0; asked < 7 * 10; asked++) {
            int key = asked / 10;
            int name = asked % 10;
            text.append(answer(() -> x.unit(key, name, 1))).append(answer(() -> x.resize(key, name, 1)))
                .append(answer(() -> x.unit(key, name, 0)));
        }
        return text.toString();
    }

    private static String askRights(Counted x) {
        StringBuilder text = new StringBuilder();
        for (int rights = 0; rights < 256; rights++) {
            text.append(x.sharers(rights)).append(' ');
        }
        for (int asked = 0; asked < MOST_KEYS_ASKED; asked++) {
            int key = asked;
            text.append(answer(() -> x.setRights(key, 0)));
        }
        return text.toString();
    }

    private static String askWatches(Counted x) {
        StringBuilder text = new StringBuilder(askNotices(x));
        for (int asked = 0; asked < MOST_KEYS_ASKED; asked++) {
            int key = asked;
            text.append(answer(() -> x.setRights(key, 201 + key))).append(askNotices(x));
            text.append(answer(() -> x.setValue(key, 50, 0, 0))).append(askNotices(x));
            text.append(answer(() -> x.make(key, 9998))).append(askNotices(x));
            text.append(answer(() -> x.watch(key, 7, true) ? 1 : 0));
        }
        return text.toString();
    }

    private static String askNotices(Counted x) {
        StringBuilder text = new StringBuilder();
        int notice = x.takeNotice();
        for (int i = 0; i < 20 && notice != -1; i++) {
            text.append(notice).append(' ');
            notice = x.takeNotice();
        }
        return text.toString();
    }

    private static String askFlush(Counted x) {
        StringBuilder text = new StringBuilder();
        String left = answer(() -> x.write(1));
        for (int i = 0; i < 140 && !left.startsWith("I"); i++) {
            text.append(left).append(x.log(0)).append(' ').append(x.log(1)).append(' ');
            left = answer(() -> x.write(1));
        }
        text.append(answer(x::dirty)).append(answer(x::flush)).append(answer(x::crash));
        return text.append(x.sectors()).append(' ').append(x.list(0)).toString();
    }

    private static String askCrash(Counted x) {
        return x.crash() + " " + askFile(x) + askKeys(x) + answer(() -> x.make(0, 9998));
    }
}
