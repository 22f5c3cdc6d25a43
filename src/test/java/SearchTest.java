import java.util.Arrays;
import java.util.List;

/** Promises 10 and 11: which entries a search goes through, and found. */
public final class SearchTest {
    private static final int NONE = EntryTree.NONE;
    private static final int PLAIN = 0, IN = 1, TO = 2, BOTH = 3;
    private static final Check check = new Check();

    public static void main(String[] args) {
        scopes();
        aliasAsBase();
        aliasesWithin();
        aliasesBehindAliases();
        aliasesInRings();
        aliasesThatLeadToNothing();
        fullChainOfSubtrees();
        rulesWhereTheEntryIs();
        searchRefuses();
        foundStays();
        check.end();
    }

    /** Finds all entries that are searched: none has a value of attribute 5. */
    private static void searched(EntryTree tree, int base, int scope, int mode, int... due) {
        tree.wipe();
        tree.token(6, 0, 0);
        tree.token(0, 5, 0);
        String call = "search(" + base + ", " + scope + ", " + mode + ", 0)";
        int count = tree.search(base, scope, mode, 0);
        check.due(call, count, due.length);
        int[] got = new int[Math.max(count, 0)];
        for (int k = 0; k < got.length; k++) {
            got[k] = tree.found(k);
        }
        check.holds(call + " finds " + Arrays.toString(due) + ", found " + Arrays.toString(got),
            Arrays.equals(got, due));
        check.due("found behind the last of " + call, tree.found(due.length), NONE);
    }

    private static void refused(EntryTree tree, int base, int scope, int mode) {
        tree.wipe();
        tree.token(6, 0, 0);
        tree.token(0, 5, 0);
        check.due("search", tree.search(base, scope, mode, 0), NONE);
        check.due("found(0)", tree.found(0), NONE);
    }

    private static void scopes() {
        check.part("promise 10, scopes");
        EntryTree tree = new EntryTree();
        tree.add(0, 1, NONE); // 1
        tree.add(1, 2, NONE); // 2
        tree.add(0, 3, NONE); // 3
        tree.add(2, 4, NONE); // 4
        for (int mode = PLAIN; mode <= BOTH; mode++) {
            searched(tree, 0, 0, mode, 0);
            searched(tree, 0, 1, mode, 1, 3);
            searched(tree, 0, 2, mode, 0, 1, 2, 3, 4);
            searched(tree, 1, 0, mode, 1);
            searched(tree, 1, 1, mode, 2);
            searched(tree, 1, 2, mode, 1, 2, 4);
            searched(tree, 4, 1, mode);
            searched(tree, 4, 2, mode, 4);
        }
        tree.move(1, 3, 0);
        searched(tree, 3, 2, PLAIN, 1, 2, 3, 4);
        searched(tree, 0, 1, PLAIN, 3);
    }

    private static void aliasAsBase() {
        check.part("promise 10, alias as base");
        EntryTree tree = new EntryTree();
        tree.add(0, 1, NONE); // 1
        tree.add(1, 1, NONE); // 2
        tree.add(0, 2, 1);    // 3
        tree.add(0, 3, 3);    // 4
        for (int base = 3; base <= 4; base++) {
            searched(tree, base, 0, PLAIN, base);
            searched(tree, base, 1, PLAIN);
            searched(tree, base, 2, PLAIN, base);
            searched(tree, base, 0, IN, base);
            searched(tree, base, 1, IN);
            searched(tree, base, 2, IN, base);
            for (int mode = TO; mode <= BOTH; mode++) {
                searched(tree, base, 0, mode, 1);
                searched(tree, base, 1, mode, 2);
                searched(tree, base, 2, mode, 1, 2);
            }
        }
        tree.point(3, 4);
        refused(tree, 3, 0, TO);
        refused(tree, 4, 2, BOTH);
        searched(tree, 3, 2, IN, 3);
        tree.remove(4);
        refused(tree, 3, 0, TO);
        refused(tree, 3, 1, BOTH);
        searched(tree, 3, 0, PLAIN, 3);
    }

    private static void aliasesWithin() {
        check.part("promise 10, aliases within");
        EntryTree tree = new EntryTree();
        tree.add(0, 1, NONE); // 1
        tree.add(1, 1, NONE); // 2
        tree.add(0, 2, NONE); // 3
        tree.add(3, 1, 1);    // 4
        tree.add(3, 2, 4);    // 5, leads to 1 too
        tree.add(3, 3, 3);    // 6, leads to the base
        searched(tree, 3, 0, IN, 3);
        searched(tree, 3, 1, PLAIN, 4, 5, 6);
        searched(tree, 3, 1, TO, 4, 5, 6);
        searched(tree, 3, 1, IN, 1, 3);
        searched(tree, 3, 1, BOTH, 1, 3);
        searched(tree, 3, 2, PLAIN, 3, 4, 5, 6);
        searched(tree, 3, 2, IN, 1, 2, 3);
        searched(tree, 0, 2, IN, 0, 1, 2, 3);
        searched(tree, 0, 1, IN, 1, 3);
    }

    private static void aliasesBehindAliases() {
        check.part("promise 10, aliases behind aliases");
        EntryTree tree = new EntryTree();
        tree.add(0, 1, NONE); // 1, the base
        tree.add(0, 2, NONE); // 2
        tree.add(0, 3, NONE); // 3
        tree.add(3, 1, NONE); // 4
        tree.add(4, 1, NONE); // 5
        tree.add(1, 1, 2);    // 6: 1 to 2
        tree.add(2, 1, 4);    // 7: 2 to 4
        tree.add(5, 1, 1);    // 8: back to 1
        searched(tree, 1, 2, IN, 1, 2, 4, 5);
        searched(tree, 1, 1, IN, 2);
        searched(tree, 6, 2, BOTH, 1, 2, 4, 5);
        searched(tree, 6, 1, BOTH, 4);
        searched(tree, 2, 2, IN, 1, 2, 4, 5);
        searched(tree, 3, 2, IN, 1, 2, 3, 4, 5);
        tree.point(8, 0);
        searched(tree, 1, 2, IN, 0, 1, 2, 3, 4, 5);
    }

    private static void aliasesInRings() {
        check.part("promise 10, rings");
        EntryTree tree = new EntryTree();
        tree.add(0, 1, NONE); // 1
        tree.add(1, 1, 0);    // 2: to what it is below
        tree.add(1, 2, 1);    // 3: to its parent
        tree.add(1, 3, 2);    // 4
        searched(tree, 1, 2, IN, 0, 1);
        searched(tree, 1, 1, IN, 0, 1);
        searched(tree, 0, 2, IN, 0, 1);
    }

    private static void aliasesThatLeadToNothing() {
        check.part("promise 10, left out");
        EntryTree tree = new EntryTree();
        tree.add(0, 1, NONE); // 1
        tree.add(0, 2, 1);    // 2
        tree.add(0, 3, 2);    // 3
        tree.add(0, 4, 0);    // 4
        tree.point(4, 4);
        tree.remove(1);
        searched(tree, 0, 1, PLAIN, 2, 3, 4);
        searched(tree, 0, 1, IN);
        searched(tree, 0, 2, IN, 0);
        searched(tree, 0, 2, TO, 0, 2, 3, 4);
        tree.point(2, 0);
        searched(tree, 0, 1, IN, 0);
    }

    private static void fullChainOfSubtrees() {
        check.part("promise 10, all 48");
        EntryTree tree = new EntryTree();
        tree.add(0, 0, NONE); // 1 to 23: under the root, each with an alias of the next under it
        for (int e = 2; e <= 23; e++) {
            tree.add(0, e, NONE);
        }
        for (int e = 24; e <= 45; e++) {
            tree.add(e - 23, 0, e - 22);
        }
        int[] all = new int[23];
        for (int i = 0; i < 23; i++) {
            all[i] = i + 1;
        }
        searched(tree, 1, 2, IN, all);
        searched(tree, 12, 2, IN, Arrays.copyOfRange(all, 11, 23));
        searched(tree, 23, 2, IN, 23);
    }

    private static void rulesWhereTheEntryIs() {
        check.part("promise 10, rules where the entry is");
        EntryTree tree = new EntryTree();
        tree.add(0, 1, NONE); // 1
        tree.add(1, 1, NONE); // 2
        tree.add(0, 2, NONE); // 3
        tree.add(3, 1, 2);    // 4
        tree.put(2, 0, 7, true);
        tree.rule(3, 0, 0, 0);
        tree.rule(1, 1, 0, 0);
        tree.token(0, 0, 0);
        check.due("hidden at the alias alone", tree.search(3, 2, IN, 0), 1);
        check.due("found(0)", tree.found(0), 2);
        check.due("hidden where it is", tree.search(3, 2, IN, 1), 0);
        check.due("an alias itself has no value", tree.search(4, 0, PLAIN, 2), 0);
        check.due("what it leads to", tree.search(4, 0, TO, 2), 1);
        check.due("found(0)", tree.found(0), 2);
    }

    private static void searchRefuses() {
        check.part("promise 10, refused");
        EntryTree tree = new EntryTree();
        tree.add(0, 1, NONE);
        tree.token(6, 0, 0);
        tree.token(0, 0, 0);
        for (int far : Check.FAR) {
            refusedAfterFound(tree, far, 0, 0, 0);
            refusedAfterFound(tree, 0, far, 0, 0);
            refusedAfterFound(tree, 0, 0, far, 0);
            refusedAfterFound(tree, 0, 0, 0, far);
        }
        refusedAfterFound(tree, 2, 0, 0, 0);
        refusedAfterFound(tree, 0, 3, 0, 0);
        refusedAfterFound(tree, 0, 0, 4, 0);
        refusedAfterFound(tree, 0, 0, 0, 4);
        check.due("greatest of all", tree.search(1, 2, 3, 3), 1);
        check.due("serial", tree.state(0), 1);
    }

    private static void refusedAfterFound(EntryTree tree, int base, int scope, int mode, int group) {
        check.due("found before", tree.search(0, 2, 0, 0), 2);
        String call = "search(" + base + ", " + scope + ", " + mode + ", " + group + ")";
        check.due(call, tree.search(base, scope, mode, group), NONE);
        check.due("found(0)", tree.found(0), NONE);
        check.due("found(1)", tree.found(1), NONE);
    }

    private static void foundStays() {
        check.part("promise 11");
        EntryTree tree = new EntryTree();
        tree.add(0, 1, NONE);
        tree.add(0, 2, NONE);
        tree.add(0, 3, NONE);
        tree.put(1, 0, 0, true);
        tree.put(3, 0, 0, true);
        tree.token(0, 0, 0);
        check.due("search", tree.search(0, 1, 0, 0), 2);
        tree.remove(3);
        tree.put(1, 0, 0, false);
        tree.wipe();
        check.due("found(0)", tree.found(0), 1);
        check.due("what is not there any more", tree.found(1), 3);
        check.due("found(2)", tree.found(2), NONE);
        for (int far : Check.FAR) {
            check.due("found(" + far + ")", tree.found(far), NONE);
        }
        List<Integer> before = Snapshot.of(tree);
        check.holds("asking changes nothing", before.equals(Snapshot.of(tree)));
        tree.token(0, 0, 0);
        check.due("a later search", tree.search(0, 1, 0, 0), 0);
        check.due("found by the latest", tree.found(0), NONE);
    }
}
