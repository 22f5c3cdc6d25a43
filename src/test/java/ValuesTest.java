import java.util.List;

/** Promises 6, 7, 14 and 17: put, rule, values and the order of refusals. */
public final class ValuesTest {
    private static final int NONE = EntryTree.NONE, HIDDEN = EntryTree.HIDDEN;
    private static final Check check = new Check();

    public static void main(String[] args) {
        putSetsAndClears();
        putRefuses();
        ruleIsFoundOnTheWayUp();
        ruleIsFoundFromTheDeepest();
        ruleIsOfOneGroupAndAttribute();
        ruleFollowsTheMove();
        ruleRefuses();
        valuesAreASum();
        noneComesBeforeHidden();
        aliasesHaveNoValues();
        check.end();
    }

    /** 0 with 1, 2 and 3 each under the one before, and 4, an alias of 1, under 3. */
    private static EntryTree line() {
        EntryTree tree = new EntryTree();
        tree.add(0, 1, NONE);
        tree.add(1, 1, NONE);
        tree.add(2, 1, NONE);
        tree.add(3, 1, 1);
        return tree;
    }

    private static void putSetsAndClears() {
        check.part("promise 6");
        EntryTree tree = line();
        check.due("put", tree.put(1, 0, 0, true), true);
        check.due("own serial", tree.look(1, 6), 5);
        check.due("greatest of all", tree.put(1, 5, 15, true), true);
        check.due("the root", tree.put(0, 3, 7, true), true);
        check.due("serial of the root", tree.look(0, 6), 7);
        check.due("it is there already", tree.put(1, 0, 0, true), false);
        check.due("it is not there", tree.put(1, 0, 1, false), false);
        check.due("serial as before", tree.state(0), 7);
        check.due("take away", tree.put(1, 0, 0, false), true);
        check.due("serial", tree.state(0), 8);
        check.due("own serial", tree.look(1, 6), 8);
        check.due("it is away already", tree.put(1, 0, 0, false), false);
        check.due("values", tree.values(1, 0, 0), 0);
        check.due("others stay", tree.values(1, 5, 0), 1 << 15);
    }

    private static void putRefuses() {
        check.part("promise 6, refused");
        EntryTree tree = line();
        tree.put(1, 0, 0, true);
        List<Integer> before = Snapshot.of(tree);
        for (int far : Check.FAR) {
            for (boolean on : new boolean[] {true, false}) {
                check.due("e " + far, tree.put(far, 0, 0, on), false);
                check.due("a " + far, tree.put(1, far, 0, on), false);
                check.due("v " + far, tree.put(1, 0, far, on), false);
            }
        }
        check.due("not there", tree.put(5, 0, 0, true), false);
        check.due("an alias", tree.put(4, 0, 1, true), false);
        check.due("an alias, off", tree.put(4, 0, 1, false), false);
        check.due("a 6", tree.put(1, 6, 0, true), false);
        check.due("v 16", tree.put(1, 0, 16, true), false);
        check.due("v 32", tree.put(1, 1, 32, true), false);
        check.holds("nothing changed", before.equals(Snapshot.of(tree)));
    }

    private static void ruleIsFoundOnTheWayUp() {
        check.part("promise 7");
        EntryTree tree = line();
        tree.put(3, 2, 4, true);
        check.due("none says anything", tree.values(3, 2, 1), 16);
        check.due("root NO", tree.rule(0, 1, 2, 0), true);
        check.due("the root itself", tree.values(0, 2, 1), HIDDEN);
        check.due("from the root", tree.values(3, 2, 1), HIDDEN);
        check.due("2 YES", tree.rule(2, 1, 2, 1), true);
        check.due("from 2", tree.values(3, 2, 1), 16);
        check.due("above 2", tree.values(1, 2, 1), HIDDEN);
        check.due("3 NO", tree.rule(3, 1, 2, 0), true);
        check.due("from itself", tree.values(3, 2, 1), HIDDEN);
        check.due("the same again", tree.rule(3, 1, 2, 0), true);
        check.due("3 nothing", tree.rule(3, 1, 2, -1), true);
        check.due("from 2 again", tree.values(3, 2, 1), 16);
        check.due("2 nothing", tree.rule(2, 1, 2, -1), true);
        check.due("from the root again", tree.values(3, 2, 1), HIDDEN);
        check.due("no serial for rules", tree.state(0), 5);
        check.due("own serial", tree.look(3, 6), 5);
    }

    private static void ruleIsFoundFromTheDeepest() {
        check.part("promise 7, deepest");
        EntryTree tree = new EntryTree();
        for (int e = 1; e < 48; e++) {
            tree.add(e - 1, 0, NONE);
        }
        tree.rule(0, 0, 0, 0);
        check.due("47 entries up", tree.values(47, 0, 0), HIDDEN);
        tree.rule(47, 0, 0, 1);
        check.due("its own", tree.values(47, 0, 0), 0);
    }

    private static void ruleIsOfOneGroupAndAttribute() {
        check.part("promise 7, one alone");
        EntryTree tree = line();
        tree.rule(2, 3, 5, 0);
        for (int e = 0; e < 5; e++) {
            for (int a = 0; a < 6; a++) {
                for (int group = 0; group < 4; group++) {
                    boolean hidden = e >= 2 && a == 5 && group == 3;
                    check.due("values(" + e + ", " + a + ", " + group + ")",
                        tree.values(e, a, group), hidden ? HIDDEN : 0);
                }
            }
        }
    }

    private static void ruleFollowsTheMove() {
        check.part("promise 7, moved");
        EntryTree tree = line();
        tree.rule(1, 0, 0, 0);
        check.due("below 1", tree.values(3, 0, 0), HIDDEN);
        tree.move(2, 0, 9);
        check.due("not below 1", tree.values(3, 0, 0), 0);
        tree.rule(2, 0, 0, 0);
        check.due("its own rule goes with it", tree.values(3, 0, 0), HIDDEN);
    }

    private static void ruleRefuses() {
        check.part("promise 7, refused");
        EntryTree tree = line();
        tree.rule(2, 0, 0, 0);
        List<Integer> before = Snapshot.of(tree);
        for (int far : Check.FAR) {
            check.due("e " + far, tree.rule(far, 0, 0, 0), false);
            check.due("group " + far, tree.rule(1, far, 0, 0), false);
            check.due("a " + far, tree.rule(1, 0, far, 0), false);
            if (far != -1) {
                check.due("says " + far, tree.rule(1, 0, 0, far), false);
            }
        }
        check.due("not there", tree.rule(5, 0, 0, 0), false);
        check.due("group 4", tree.rule(1, 4, 0, 0), false);
        check.due("a 6", tree.rule(1, 0, 6, 0), false);
        check.due("says 2", tree.rule(1, 0, 0, 2), false);
        check.holds("nothing changed", before.equals(Snapshot.of(tree)));
        check.due("an alias may have rules", tree.rule(4, 0, 0, 1), true);
        check.due("values of it", tree.values(4, 0, 0), 0);
    }

    private static void valuesAreASum() {
        check.part("promise 14");
        EntryTree tree = line();
        int sum = 0;
        for (int v = 0; v < 16; v++) {
            tree.put(3, 4, v, true);
            sum += 1 << v;
            check.due("values up to " + v, tree.values(3, 4, 2), sum);
        }
        check.due("another attribute", tree.values(3, 3, 2), 0);
        check.due("another entry", tree.values(2, 4, 2), 0);
        tree.put(3, 4, 9, false);
        check.due("less 9", tree.values(3, 4, 2), sum - 512);
    }

    private static void noneComesBeforeHidden() {
        check.part("promises 14 and 17");
        EntryTree tree = line();
        for (int a = 0; a < 6; a++) {
            for (int group = 0; group < 4; group++) {
                tree.rule(0, group, a, 0);
            }
        }
        check.due("hidden", tree.values(1, 0, 0), HIDDEN);
        for (int far : Check.FAR) {
            check.due("e " + far, tree.values(far, 0, 0), NONE);
            check.due("a " + far, tree.values(1, far, 0), NONE);
            check.due("group " + far, tree.values(1, 0, far), NONE);
        }
        check.due("not there", tree.values(5, 0, 0), NONE);
        check.due("a 6", tree.values(1, 6, 0), NONE);
        check.due("group 4", tree.values(1, 0, 4), NONE);
    }

    private static void aliasesHaveNoValues() {
        check.part("promise 17");
        EntryTree tree = line();
        tree.put(1, 0, 3, true);
        check.due("values of an alias", tree.values(4, 0, 0), 0);
        tree.rule(2, 0, 0, 0);
        check.due("where it is, not where it leads", tree.values(4, 0, 0), HIDDEN);
        check.due("what it leads to", tree.values(1, 0, 0), 8);
        EntryTree other = new EntryTree();
        other.add(0, 1, NONE);
        other.add(0, 2, 1);
        other.remove(1);
        check.due("an alias of nothing", other.look(2, 2), EntryTree.NOTHING);
        check.due("values of an alias of nothing", other.values(2, 0, 0), 0);
        other.rule(2, 0, 0, 0);
        check.due("its own rule", other.values(2, 0, 0), HIDDEN);
    }
}
