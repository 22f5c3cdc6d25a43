import java.util.List;

/** Promises 15 and 16: changed and state; and the last serial. */
public final class ChangesTest {
    private static final int NONE = EntryTree.NONE;
    private static final Check check = new Check();

    public static void main(String[] args) {
        changedByRisingSerials();
        changedOfAllEntries();
        stateCounts();
        refusedCallsKeepTheSerial();
        lastSerial();
        check.end();
    }

    private static void changes(EntryTree tree, int after, int... due) {
        for (int k = 0; k < due.length; k++) {
            check.due("changed(" + after + ", " + k + ")", tree.changed(after, k), due[k]);
        }
        for (int k = due.length; k < due.length + 3; k++) {
            check.due("changed(" + after + ", " + k + ")", tree.changed(after, k), NONE);
        }
        for (int far : Check.FAR) {
            check.due("changed(" + after + ", " + far + ")", tree.changed(after, far), NONE);
        }
    }

    private static void changedByRisingSerials() {
        check.part("promise 15");
        EntryTree tree = new EntryTree();
        tree.add(0, 1, NONE);        // serial 1
        tree.add(0, 2, NONE);        // 2
        tree.add(0, 3, 1);           // 3
        changes(tree, -1, 0, 1, 2, 3);
        changes(tree, Integer.MIN_VALUE, 0, 1, 2, 3);
        changes(tree, 0, 1, 2, 3);
        changes(tree, 2, 3);
        changes(tree, 3);
        changes(tree, Integer.MAX_VALUE);
        tree.put(1, 0, 0, true);     // 4
        changes(tree, 0, 2, 3, 1);
        tree.move(2, 1, 0);          // 5
        changes(tree, 0, 3, 1, 2);
        tree.point(3, 2);            // 6
        changes(tree, 0, 1, 2, 3);
        tree.put(0, 0, 0, true);     // 7
        changes(tree, -1, 1, 2, 3, 0);
        tree.remove(2);              // 8
        changes(tree, 0, 1, 3, 0);
        changes(tree, 6, 0);
        tree.add(0, 9, NONE);        // 9, number 2 again
        changes(tree, 3, 1, 3, 0, 2);
        tree.rule(1, 0, 0, 0);
        changes(tree, 8, 2);
    }

    private static void changedOfAllEntries() {
        check.part("promise 15, all 48");
        EntryTree tree = new EntryTree();
        for (int e = 1; e < 48; e++) {
            tree.add(0, e, NONE);
        }
        check.due("changed(-1, 47)", tree.changed(-1, 47), 47);
        check.due("changed(0, 46)", tree.changed(0, 46), 47);
        check.due("changed(0, 47)", tree.changed(0, 47), NONE);
        check.due("changed(46, 0)", tree.changed(46, 0), 47);
    }

    private static void stateCounts() {
        check.part("promise 16");
        EntryTree tree = new EntryTree();
        state(tree, 0, 1, 0, 0);
        tree.add(0, 1, NONE);
        state(tree, 1, 2, 0, 1);
        tree.add(1, 1, NONE);
        state(tree, 2, 3, 0, 2);
        tree.add(2, 1, 2);
        tree.add(0, 2, 3);
        state(tree, 4, 5, 0, 3);
        tree.remove(3);
        state(tree, 5, 4, 1, 2);
        tree.point(4, 2);
        state(tree, 6, 4, 0, 2);
        tree.remove(2);
        state(tree, 7, 3, 1, 1);
        tree.move(4, 1, 1);
        state(tree, 8, 3, 1, 2);
        tree.put(1, 0, 0, true);
        tree.put(1, 0, 0, false);
        state(tree, 10, 3, 1, 2);
        tree.rule(1, 0, 0, 0);
        tree.token(0, 0, 0);
        tree.search(0, 0, 0, 0);
        state(tree, 10, 3, 1, 2);
        tree.remove(4);
        tree.remove(1);
        state(tree, 12, 1, 0, 0);
    }

    private static void state(EntryTree tree, int... due) {
        for (int what = 0; what < 4; what++) {
            check.due("state(" + what + ")", tree.state(what), due[what]);
        }
        check.due("state(4)", tree.state(4), NONE);
        for (int far : Check.FAR) {
            check.due("state(" + far + ")", tree.state(far), NONE);
        }
    }

    private static void refusedCallsKeepTheSerial() {
        check.part("promise 16, refused calls");
        EntryTree tree = new EntryTree();
        tree.add(0, 1, NONE);
        tree.add(0, 1, NONE);
        tree.remove(0);
        tree.move(1, 1, 0);
        tree.point(1, 0);
        tree.put(1, 0, 0, false);
        check.due("state(0)", tree.state(0), 1);
    }

    private static void lastSerial() {
        check.part("the last serial");
        EntryTree tree = new EntryTree();
        tree.add(0, 1, NONE);
        tree.add(0, 2, 1);
        Edges.setSerial(tree, 999999999);
        check.due("the last one", tree.put(1, 0, 0, true), true);
        check.due("state(0)", tree.state(0), 1000000000);
        check.due("changed", tree.changed(999999999, 0), 1);
        List<Integer> before = Snapshot.of(tree);
        check.due("add", tree.add(0, 5, NONE), NONE);
        check.due("remove", tree.remove(1), false);
        check.due("move", tree.move(1, 0, 5), false);
        check.due("point", tree.point(2, 0), false);
        check.due("put", tree.put(1, 0, 0, false), false);
        check.holds("nothing changed", before.equals(Snapshot.of(tree)));
        check.due("a rule has no serial", tree.rule(1, 0, 0, 0), true);
        check.due("values", tree.values(1, 0, 0), EntryTree.HIDDEN);
    }
}
