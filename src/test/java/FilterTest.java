import java.util.List;

/** Promises 8 to 10: token, wipe, and what a filter says of one entry. */
public final class FilterTest {
    private static final int NONE = EntryTree.NONE;
    private static final int HAS = 0, IS = 1, LEAST = 2, MOST = 3, AND = 4, OR = 5, NOT = 6;
    private static final int FALSE = 0, OPEN = 1, TRUE = 2;
    private static final Check check = new Check();

    public static void main(String[] args) {
        tokenCounts();
        tokenLooksAtWhatItNames();
        tokenRefuses();
        wipeEmpties();
        testsOfValues();
        truthTables();
        deepFilters();
        onlyOneExpression();
        check.end();
    }

    private static void tokenCounts() {
        check.part("promise 8");
        EntryTree tree = new EntryTree();
        for (int i = 1; i <= 12; i++) {
            check.due("token " + i, tree.token(i == 12 ? HAS : NOT, 0, 0), i);
        }
        check.due("a 13th", tree.token(HAS, 0, 0), NONE);
        check.due("a 13th again", tree.token(NOT, 0, 0), NONE);
        check.due("twelve make a filter", tree.search(0, 0, 0, 0), 1);
        check.due("wipe()", tree.wipe(), 12);
    }

    private static void tokenLooksAtWhatItNames() {
        check.part("promise 8, what is looked at");
        for (int far : Check.FAR) {
            EntryTree tree = new EntryTree();
            check.due("AND", tree.token(AND, far, far), 1);
            check.due("OR", tree.token(OR, far, far), 2);
            check.due("NOT", tree.token(NOT, far, far), 3);
            check.due("HAS", tree.token(HAS, 5, far), 4);
            check.due("IS", tree.token(IS, 5, 15), 5);
            check.due("LEAST", tree.token(LEAST, 0, 15), 6);
            check.due("the filter stands", tree.search(0, 0, 0, 0), 0);
        }
    }

    private static void tokenRefuses() {
        check.part("promise 8, refused");
        EntryTree tree = new EntryTree();
        tree.token(NOT, 0, 0);
        tree.token(HAS, 0, 0);
        for (int far : Check.FAR) {
            check.due("kind " + far, tree.token(far, 0, 0), NONE);
            for (int kind = HAS; kind <= MOST; kind++) {
                check.due("kind " + kind + ", a " + far, tree.token(kind, far, 0), NONE);
            }
            for (int kind = IS; kind <= MOST; kind++) {
                check.due("kind " + kind + ", v " + far, tree.token(kind, 0, far), NONE);
            }
        }
        check.due("kind 7", tree.token(7, 0, 0), NONE);
        for (int kind = HAS; kind <= MOST; kind++) {
            check.due("kind " + kind + ", a 6", tree.token(kind, 6, 0), NONE);
        }
        for (int kind = IS; kind <= MOST; kind++) {
            check.due("kind " + kind + ", v 16", tree.token(kind, 0, 16), NONE);
        }
        check.due("the filter is as it was", tree.search(0, 0, 0, 0), 1);
        check.due("wipe()", tree.wipe(), 2);
    }

    private static void wipeEmpties() {
        check.part("promise 9");
        EntryTree tree = new EntryTree();
        check.due("an empty one", tree.wipe(), 0);
        tree.token(NOT, 0, 0);
        tree.token(HAS, 0, 0);
        check.due("search", tree.search(0, 0, 0, 0), 1);
        List<Integer> before = Snapshot.of(tree);
        check.due("of two", tree.wipe(), 2);
        check.holds("no more than the filter", before.equals(Snapshot.of(tree)));
        check.due("again", tree.wipe(), 0);
        check.due("search with none", tree.search(0, 0, 0, 0), NONE);
        check.due("from one on", tree.token(HAS, 0, 0), 1);
        check.due("the old tokens are gone", tree.search(0, 0, 0, 0), 0);
    }

    /** FALSE, OPEN or TRUE of a filter, told by asking also for its NOT. */
    private static int truth(EntryTree tree, int e, int group, int... tokens) {
        fill(tree, tokens);
        int plain = tree.search(e, 0, 0, group);
        int[] negated = new int[tokens.length + 3];
        negated[0] = NOT;
        System.arraycopy(tokens, 0, negated, 3, tokens.length);
        fill(tree, negated);
        int turned = tree.search(e, 0, 0, group);
        if (plain == 1 && turned == 0) {
            return TRUE;
        }
        if (plain == 0 && turned == 1) {
            return FALSE;
        }
        return plain == 0 && turned == 0 ? OPEN : NONE;
    }

    private static void fill(EntryTree tree, int... tokens) {
        tree.wipe();
        for (int i = 0; i < tokens.length; i += 3) {
            tree.token(tokens[i], tokens[i + 1], tokens[i + 2]);
        }
    }

    private static void testsOfValues() {
        check.part("promise 10, tests");
        for (int kind = HAS; kind <= MOST; kind++) {
            for (int v = 0; v < 16; v++) {
                EntryTree tree = new EntryTree();
                check.due("no value", truth(tree, 0, 0, kind, 2, v), FALSE);
                tree.put(0, 2, 6, true);
                tree.put(0, 2, 9, true);
                check.due("kind " + kind + " " + v, truth(tree, 0, 0, kind, 2, v), due(kind, v));
                check.due("another attribute", truth(tree, 0, 0, kind, 1, v), FALSE);
                tree.rule(0, 1, 2, 0);
                check.due("may not read", truth(tree, 0, 1, kind, 2, v), OPEN);
                check.due("another group", truth(tree, 0, 0, kind, 2, v), due(kind, v));
            }
        }
    }

    private static int due(int kind, int v) {
        boolean so = kind == HAS
            || kind == IS && (v == 6 || v == 9)
            || kind == LEAST && v <= 9
            || kind == MOST && v >= 6;
        return so ? TRUE : FALSE;
    }

    private static void truthTables() {
        check.part("promise 10, tables");
        EntryTree tree = new EntryTree();
        // HAS of these attributes is FALSE, OPEN and TRUE, in their order.
        tree.rule(0, 0, 1, 0);
        tree.put(0, 2, 0, true);
        int[][] and = {{FALSE, FALSE, FALSE}, {FALSE, OPEN, OPEN}, {FALSE, OPEN, TRUE}};
        int[][] or = {{FALSE, OPEN, TRUE}, {OPEN, OPEN, TRUE}, {TRUE, TRUE, TRUE}};
        int[] not = {TRUE, OPEN, FALSE};
        for (int x = 0; x < 3; x++) {
            check.due("NOT " + x, truth(tree, 0, 0, NOT, 0, 0, HAS, x, 0), not[x]);
            for (int y = 0; y < 3; y++) {
                check.due("AND " + x + y, truth(tree, 0, 0, AND, 0, 0, HAS, x, 0, HAS, y, 0), and[x][y]);
                check.due("OR " + x + y, truth(tree, 0, 0, OR, 0, 0, HAS, x, 0, HAS, y, 0), or[x][y]);
            }
        }
    }

    private static void deepFilters() {
        check.part("promise 10, deep");
        EntryTree tree = new EntryTree();
        tree.put(0, 0, 3, true);
        check.due("operands on the left", truth(tree, 0, 0,
            AND, 0, 0, AND, 0, 0, AND, 0, 0, AND, 0, 0, AND, 0, 0,
            HAS, 0, 0, IS, 0, 3, LEAST, 0, 3, MOST, 0, 3, HAS, 0, 0, HAS, 0, 0), TRUE);
        check.due("operands on the right", truth(tree, 0, 0,
            OR, 0, 0, IS, 0, 1, OR, 0, 0, IS, 0, 2, OR, 0, 0, IS, 0, 4,
            OR, 0, 0, IS, 0, 5, OR, 0, 0, IS, 0, 6, IS, 0, 3), TRUE);
        check.due("NOT binds what follows alone", truth(tree, 0, 0,
            OR, 0, 0, NOT, 0, 0, HAS, 0, 0, HAS, 0, 0), TRUE);
        check.due("NOT of the whole", truth(tree, 0, 0,
            NOT, 0, 0, OR, 0, 0, HAS, 0, 0, HAS, 0, 0), FALSE);
        check.due("NOT of the second operand", truth(tree, 0, 0,
            AND, 0, 0, HAS, 0, 0, NOT, 0, 0, IS, 0, 2), TRUE);
    }

    private static void onlyOneExpression() {
        check.part("promise 10, filter refused");
        int[][] broken = {
            {},
            {NOT, 0, 0},
            {AND, 0, 0},
            {OR, 0, 0, HAS, 0, 0},
            {AND, 0, 0, HAS, 0, 0},
            {HAS, 0, 0, HAS, 0, 0},
            {HAS, 0, 0, NOT, 0, 0},
            {HAS, 0, 0, HAS, 0, 0, AND, 0, 0},
            {HAS, 0, 0, AND, 0, 0, HAS, 0, 0},
            {NOT, 0, 0, HAS, 0, 0, HAS, 0, 0},
            {OR, 0, 0, HAS, 0, 0, HAS, 0, 0, HAS, 0, 0},
            {AND, 0, 0, OR, 0, 0, HAS, 0, 0, HAS, 0, 0},
        };
        for (int[] tokens : broken) {
            EntryTree tree = new EntryTree();
            tree.put(0, 0, 0, true);
            fill(tree, HAS, 0, 0);
            check.due("found before", tree.search(0, 2, 0, 0), 1);
            fill(tree, tokens);
            check.due("search", tree.search(0, 2, 0, 0), NONE);
            check.due("nothing is found", tree.found(0), NONE);
            check.due("nothing under the base", tree.search(0, 1, 0, 0), NONE);
            check.due("the filter stays", tree.wipe(), tokens.length / 3);
        }
    }
}
