import java.lang.reflect.Field;
import java.lang.reflect.Modifier;
import java.util.ArrayList;
import java.util.List;
import java.util.TreeSet;

/**
 * Boundary cases, each on new objects of its own: one call after some steps, with the answer that is due.
 * Of a refused call also that nothing changed: a twin object goes the same steps without the call, and both
 * are then asked everything. The questions come in portions, each for a new pair of twins, so that no object
 * is used for more than 512 calls.
 */
final class Edges {
    static final int NONE = EntryTree.NONE, NOTHING = EntryTree.NOTHING, HIDDEN = EntryTree.HIDDEN;
    static final int HAS = 0, IS = 1, LEAST = 2, MOST = 3, AND = 4, OR = 5, NOT = 6;
    static final int IN = 1, TO = 2;

    static final int[] NO_ENTRIES = outside(0, 47), NO_NAMES = outside(0, 99);
    static final int[] NO_ATTRIBUTES = outside(0, 5), NO_VALUES = outside(0, 15), NO_GROUPS = outside(0, 3);
    static final int[] NO_KINDS = outside(0, 6), NO_SCOPES = outside(0, 2), NO_MODES = outside(0, 3);
    static final int[] NO_SAYINGS = outside(-1, 1), NO_LOOKS = outside(0, 7), NO_STATES = outside(0, 3);

    private static final int PORTION = 200;
    private static final List<Call> QUESTIONS = questions();

    private final Check check = new Check();

    interface Steps {
        void on(EntryTree tree);
    }

    interface Call {
        int of(EntryTree tree);
    }

    interface Deed {
        boolean of(EntryTree tree);
    }

    /** Numbers beside a range, far from it, and those that a narrower number or a shift would bend into it. */
    static int[] outside(int least, int greatest) {
        TreeSet<Integer> found = new TreeSet<>(List.of(
            Integer.MIN_VALUE, Integer.MIN_VALUE + 1, -1000000000, -100, -48, -3, least - 2, least - 1,
            greatest + 1, greatest + 2, 48, 100, 1000000000, 1 << 30, Integer.MAX_VALUE - 1, Integer.MAX_VALUE));
        for (int bend : new int[] {16, 32, 64, 128, 256, 1 << 16, 1 << 31}) {
            found.add(least + bend);
            found.add(greatest + bend);
            found.add(greatest - bend);
        }
        found.removeIf(n -> n >= least && n <= greatest);
        return found.stream().mapToInt(Integer::intValue).toArray();
    }

    void part(String words) {
        check.part(words);
    }

    void end() {
        check.end();
    }

    void answers(String what, Steps before, Call call, int due) {
        EntryTree tree = new EntryTree();
        before.on(tree);
        check.due(what, call.of(tree), due);
    }

    void accepts(String what, Steps before, Deed deed) {
        EntryTree tree = new EntryTree();
        before.on(tree);
        check.due(what, deed.of(tree), true);
    }

    /** The call answers NONE, and nothing changes. */
    void answersNone(String what, Steps before, Call call) {
        answers(what, before, call, NONE);
        changesNothing(what, before, call);
    }

    /** The call answers false, and nothing changes. */
    void refuses(String what, Steps before, Deed deed) {
        Call call = tree -> deed.of(tree) ? 1 : 0;
        answers(what, before, call, 0);
        changesNothing(what, before, call);
    }

    /** The search answers NONE, and nothing is found; the tree and the filter stay as they were. */
    void findsNothing(String what, Steps before, Call search) {
        answers(what, before, search, NONE);
        EntryTree tree = new EntryTree();
        before.on(tree);
        search.of(tree);
        for (int k = 0; k < 48; k++) {
            check.due(what + ", then found(" + k + ")", tree.found(k), NONE);
        }
        // A search of the twin that is refused for its base takes away what it had found, as is due.
        Steps foundNone = twin -> {
            before.on(twin);
            twin.search(NONE, 0, 0, 0);
        };
        changesNothing(what, foundNone, search);
    }

    void changesNothing(String what, Steps before, Call call) {
        for (int from = 0; from < QUESTIONS.size(); from += PORTION) {
            EntryTree tree = new EntryTree();
            EntryTree twin = new EntryTree();
            before.on(tree);
            before.on(twin);
            call.of(tree);
            int to = Math.min(from + PORTION, QUESTIONS.size());
            check.holds("nothing changes by " + what + " (questions from " + from + ")",
                answersTo(tree, from, to).equals(answersTo(twin, from, to)));
        }
    }

    /** Does what the steps do to one object and not to its twin: they must be told apart by the questions. */
    void changesSomething(String what, Steps before, Steps change) {
        boolean seen = false;
        for (int from = 0; from < QUESTIONS.size(); from += PORTION) {
            EntryTree tree = new EntryTree();
            EntryTree twin = new EntryTree();
            before.on(tree);
            before.on(twin);
            change.on(tree);
            int to = Math.min(from + PORTION, QUESTIONS.size());
            seen |= !answersTo(tree, from, to).equals(answersTo(twin, from, to));
        }
        check.holds("the questions show " + what, seen);
    }

    private static List<Integer> answersTo(EntryTree tree, int from, int to) {
        List<Integer> answers = new ArrayList<>();
        for (Call question : QUESTIONS.subList(from, to)) {
            answers.add(question.of(tree));
        }
        return answers;
    }

    /** Everything that can be asked; last come those that change something, to show what lies hidden. */
    private static List<Call> questions() {
        List<Call> all = new ArrayList<>();
        for (int i = 0; i < 48; i++) {
            int e = i;
            all.add(tree -> tree.found(e));
            all.add(tree -> tree.changed(NONE, e));
            for (int j = 0; j < 8; j++) {
                int what = j;
                all.add(tree -> tree.look(e, what));
            }
            for (int j = 0; j < 24; j++) {
                int a = j % 6, group = j / 6;
                all.add(tree -> tree.values(e, a, group));
            }
        }
        while (all.size() % PORTION != 0) {
            int what = all.size() % 4;
            all.add(tree -> tree.state(what));
        }
        for (int i = 0; i < 16; i++) {
            int mode = i % 4, group = i / 4;
            all.add(tree -> tree.search(0, 2, mode, group));
            for (int j = 0; j < 4; j++) {
                int k = j;
                all.add(tree -> tree.found(k));
            }
        }
        all.add(EntryTree::wipe);
        all.add(tree -> tree.add(0, 93, NONE));
        all.add(tree -> tree.add(0, 94, 0));
        all.add(tree -> tree.add(0, 95, NONE));
        all.add(tree -> tree.state(0));
        all.add(tree -> tree.state(1));
        return all;
    }

    /**
     * A directory with something of everything, in which refused calls are made: 1 to 3 each under the one
     * before, 4 under the root, 5 an alias of 4, 6 removed, 7 an alias of NOTHING, 8 an alias of itself.
     */
    static void stock(EntryTree tree) {
        tree.add(0, 1, NONE);
        tree.add(1, 2, NONE);
        tree.add(2, 3, NONE);
        tree.add(0, 4, NONE);
        tree.add(0, 5, 4);
        tree.add(4, 2, NONE);
        tree.add(4, 7, 6);
        tree.add(4, 8, 0);
        tree.point(8, 8);
        tree.remove(6);
        tree.put(1, 0, 0, true);
        tree.put(3, 5, 15, true);
        tree.put(4, 2, 7, true);
        tree.rule(2, 0, 0, 0);
        tree.rule(3, 0, 0, 1);
        tree.rule(0, 3, 5, 0);
        tree.token(NOT, 0, 0);
        tree.token(HAS, 4, 0);
        tree.search(0, 2, 0, 1);
    }

    /** The root and 47 others under it, by the names 1 to 47. */
    static void full(EntryTree tree) {
        for (int e = 1; e < 48; e++) {
            tree.add(0, e, NONE);
        }
    }

    /** The root and 47 others, each under the one before, by the name 0. */
    static void chain(EntryTree tree) {
        for (int e = 1; e < 48; e++) {
            tree.add(e - 1, 0, NONE);
        }
    }

    static void filter(EntryTree tree, int... tokens) {
        tree.wipe();
        for (int i = 0; i < tokens.length; i += 3) {
            tree.token(tokens[i], tokens[i + 1], tokens[i + 2]);
        }
    }

    /**
     * No 512 calls come to the last serial, so a test sets it inside. What holds it is found by its value,
     * not by a name, since how the state is held is free.
     */
    static void setSerial(EntryTree tree, int serial) {
        int set = 0;
        try {
            for (Field field : EntryTree.class.getDeclaredFields()) {
                field.setAccessible(true);
                if (!Modifier.isStatic(field.getModifiers()) && holdsTheSerial(field, 37) && holdsTheSerial(field, 90)) {
                    set++;
                    if (field.getType() == int.class) {
                        field.setInt(tree, serial);
                    } else {
                        field.setLong(tree, serial);
                    }
                }
            }
        } catch (IllegalAccessException refused) {
            throw new IllegalStateException(refused);
        }
        if (set == 0) {
            throw new IllegalStateException("no field holds the serial");
        }
    }

    private static boolean holdsTheSerial(Field field, int serial) throws IllegalAccessException {
        EntryTree probe = new EntryTree();
        for (int i = 0; i < serial; i++) {
            probe.put(0, i / 16, i % 16, true);
        }
        boolean number = field.getType() == int.class || field.getType() == long.class;
        return number && field.getLong(probe) == serial;
    }
}
