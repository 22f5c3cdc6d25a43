/** All promises: long mixed runs, each call answered by EntryTree and by PlainTree alike. */
public final class ModelTest {
    // One step of a run is up to 34 calls: a wipe, 12 tokens, 3 searches with 6 found each.
    private static final int RUNS = 3000, CALLS = 512 - 34;
    private static final Check check = new Check();

    private final EntryTree tree = new EntryTree();
    private final PlainTree plain = new PlainTree();
    private final int entries;
    private final int names;
    private long draw;
    private int calls = 0;

    private ModelTest(int seed) {
        draw = seed;
        entries = 2 + below(48);
        names = 2 + below(99);
    }

    public static void main(String[] args) {
        for (int seed = 1; seed <= RUNS; seed++) {
            check.part("run " + seed);
            ModelTest run = new ModelTest(seed);
            while (run.calls < CALLS) {
                run.callOne();
            }
        }
        check.end();
    }

    /** A linear congruence, so that every machine draws the same runs. */
    private int below(int bound) {
        draw = draw * 6364136223846793005L + 1442695040888963407L;
        return (int) ((draw >>> 33) % bound);
    }

    /** A number below the bound, and now and then one that is far off. */
    private int some(int bound) {
        return below(40) == 0 ? Check.FAR[below(Check.FAR.length)] : below(bound);
    }

    private int alias() {
        return below(5) < 3 ? EntryTree.NONE : some(entries);
    }

    private void due(String call, int got, int want) {
        calls++;
        check.due(call, got, want);
    }

    private void due(String call, boolean got, boolean want) {
        calls++;
        check.due(call, got, want);
    }

    private void callOne() {
        int kind = below(100);
        if (kind < 22) {
            add(some(entries), some(names), alias());
        } else if (kind < 44) {
            changeOne(kind);
        } else if (kind < 52) {
            rule(some(entries), some(4), some(6), below(10) == 0 ? some(4) : below(3) - 1);
        } else if (kind < 58) {
            searchWithNewFilter();
        } else if (kind < 60) {
            token(some(8), some(7), some(17));
        } else {
            askOne(kind);
        }
    }

    private void changeOne(int kind) {
        int e = some(entries);
        int other = some(entries);
        if (kind < 24) {
            due("remove(" + e + ")", tree.remove(e), plain.remove(e));
        } else if (kind < 29) {
            int name = some(names);
            due("move(" + e + ", " + other + ", " + name + ")",
                tree.move(e, other, name), plain.move(e, other, name));
        } else if (kind < 34) {
            due("point(" + e + ", " + other + ")", tree.point(e, other), plain.point(e, other));
        } else {
            int a = some(6);
            int v = some(16);
            boolean on = below(4) > 0;
            due("put(" + e + ", " + a + ", " + v + ", " + on + ")",
                tree.put(e, a, v, on), plain.put(e, a, v, on));
        }
    }

    private void add(int parent, int name, int alias) {
        due("add(" + parent + ", " + name + ", " + alias + ")",
            tree.add(parent, name, alias), plain.add(parent, name, alias));
    }

    private void rule(int e, int group, int a, int says) {
        due("rule(" + e + ", " + group + ", " + a + ", " + says + ")",
            tree.rule(e, group, a, says), plain.rule(e, group, a, says));
    }

    private void token(int kind, int a, int v) {
        due("token(" + kind + ", " + a + ", " + v + ")", tree.token(kind, a, v), plain.token(kind, a, v));
    }

    private void searchWithNewFilter() {
        due("wipe()", tree.wipe(), plain.wipe());
        int open = 1;
        for (int i = 0; i < 12 && open > 0; i++) {
            int kind = i + open >= 11 ? below(4) : below(7);
            token(kind, below(6), below(16));
            open += kind == 6 ? 0 : kind >= 4 ? 1 : -1;
        }
        for (int i = 0; i < 3; i++) {
            search(some(entries), below(8) == 0 ? some(4) : 2 - below(5) / 2, some(4), some(4));
        }
    }

    private void search(int base, int scope, int mode, int group) {
        String call = "search(" + base + ", " + scope + ", " + mode + ", " + group + ")";
        int count = plain.search(base, scope, mode, group);
        due(call, tree.search(base, scope, mode, group), count);
        for (int k = 0; k <= count && k < 6; k++) {
            due("found(" + k + ")", tree.found(k), plain.found(k));
        }
    }

    private void askOne(int kind) {
        int e = some(entries);
        int k = some(entries);
        if (kind < 66) {
            due("found(" + k + ")", tree.found(k), plain.found(k));
        } else if (kind < 70) {
            int name = some(names);
            due("child(" + e + ", " + name + ")", tree.child(e, name), plain.child(e, name));
        } else if (kind < 82) {
            int what = some(9);
            due("look(" + e + ", " + what + ")", tree.look(e, what), plain.look(e, what));
        } else if (kind < 90) {
            int a = some(7);
            int group = some(5);
            due("values(" + e + ", " + a + ", " + group + ")",
                tree.values(e, a, group), plain.values(e, a, group));
        } else if (kind < 96) {
            int after = below(3) - 1 + below(Math.max(1, plain.state(0)));
            due("changed(" + after + ", " + k + ")", tree.changed(after, k), plain.changed(after, k));
        } else {
            int what = some(5);
            due("state(" + what + ")", tree.state(what), plain.state(what));
        }
    }
}
