import java.util.List;

/** Promises 1 to 5, 12 and 13: a new object, add, remove, move, point, child and look. */
public final class TreeTest {
    private static final int NONE = EntryTree.NONE, NOTHING = EntryTree.NOTHING;
    private static final Check check = new Check();

    public static void main(String[] args) {
        newObject();
        addGivesLeastFreeNumber();
        addRefuses();
        addFillsUpTo48();
        removeTakesAway();
        removeRefuses();
        removedNumberComesBackEmpty();
        moveTakesSubtree();
        moveWithinItsParent();
        moveRefuses();
        pointChangesAlias();
        pointRefuses();
        childFindsByName();
        lookTellsOfTree();
        lookTellsWhereAliasesLead();
        lookOfOthersIsNone();
        check.end();
    }

    private static void newObject() {
        check.part("promise 1");
        EntryTree tree = new EntryTree();
        check.due("state(0)", tree.state(0), 0);
        check.due("state(1)", tree.state(1), 1);
        check.due("state(2)", tree.state(2), 0);
        check.due("state(3)", tree.state(3), 0);
        check.due("found(0)", tree.found(0), NONE);
        check.due("wipe()", tree.wipe(), 0);
        check.due("search with an empty filter", tree.search(0, 0, 0, 0), NONE);
        int[] root = {NONE, NONE, NONE, 0, 0, 0, 0, 0};
        for (int what = 0; what < 8; what++) {
            check.due("look(0, " + what + ")", tree.look(0, what), root[what]);
            check.due("look(1, " + what + ")", tree.look(1, what), NONE);
        }
        for (int a = 0; a < 6; a++) {
            for (int group = 0; group < 4; group++) {
                check.due("values(0, " + a + ", " + group + ")", tree.values(0, a, group), 0);
            }
        }
        check.due("changed(-1, 0)", tree.changed(-1, 0), 0);
        check.due("changed(0, 0)", tree.changed(0, 0), NONE);
    }

    private static void addGivesLeastFreeNumber() {
        check.part("promise 2");
        EntryTree tree = new EntryTree();
        check.due("least name", tree.add(0, 0, NONE), 1);
        check.due("greatest name", tree.add(0, 99, NONE), 2);
        check.due("the same name under another", tree.add(1, 0, NONE), 3);
        check.due("an alias of the root", tree.add(1, 1, 0), 4);
        check.due("an alias of an alias", tree.add(0, 5, 4), 5);
        check.due("remove(2)", tree.remove(2), true);
        check.due("remove(3)", tree.remove(3), true);
        check.due("the lesser free one", tree.add(0, 7, NONE), 2);
        check.due("the next free one", tree.add(0, 8, NONE), 3);
        check.due("the one behind all", tree.add(0, 9, NONE), 6);
        check.due("serial", tree.look(6, 6), 10);
    }

    private static void addRefuses() {
        check.part("promise 2, refused");
        EntryTree tree = new EntryTree();
        tree.add(0, 1, NONE);
        tree.add(0, 2, 1);
        List<Integer> before = Snapshot.of(tree);
        for (int far : Check.FAR) {
            check.due("parent " + far, tree.add(far, 50, NONE), NONE);
            if (far != NONE) {
                check.due("alias " + far, tree.add(0, 50, far), NONE);
            }
            if (far != 48) {
                check.due("name " + far, tree.add(0, far, NONE), NONE);
            }
        }
        check.due("parent not there", tree.add(3, 50, NONE), NONE);
        check.due("parent an alias", tree.add(2, 50, NONE), NONE);
        check.due("name taken", tree.add(0, 1, NONE), NONE);
        check.due("name taken by an alias", tree.add(0, 2, NONE), NONE);
        check.due("alias of its own number to be", tree.add(0, 50, 3), NONE);
        check.holds("nothing changed", before.equals(Snapshot.of(tree)));
    }

    private static void addFillsUpTo48() {
        check.part("promise 2, full");
        EntryTree tree = new EntryTree();
        for (int e = 1; e < 48; e++) {
            check.due("add", tree.add(e - 1, e, NONE), e);
        }
        check.due("state(1)", tree.state(1), 48);
        check.due("state(3)", tree.state(3), 47);
        check.due("look(47, 5)", tree.look(47, 5), 47);
        check.due("look(0, 4)", tree.look(0, 4), 47);
        List<Integer> before = Snapshot.of(tree);
        check.due("a 49th", tree.add(0, 99, NONE), NONE);
        check.holds("nothing changed", before.equals(Snapshot.of(tree)));
        check.due("remove(47)", tree.remove(47), true);
        check.due("room again", tree.add(0, 99, NONE), 47);
    }

    private static void removeTakesAway() {
        check.part("promise 3");
        EntryTree tree = new EntryTree();
        tree.add(0, 1, NONE);
        tree.add(0, 2, 1);
        tree.add(0, 3, 2);
        check.due("remove(1)", tree.remove(1), true);
        check.due("serial", tree.state(0), 4);
        check.due("entries", tree.state(1), 3);
        check.due("aliases of nothing", tree.state(2), 1);
        check.due("look(1, 0)", tree.look(1, 0), NONE);
        check.due("alias of it", tree.look(2, 2), NOTHING);
        check.due("alias of the alias", tree.look(3, 2), 2);
        check.due("the alias keeps its serial", tree.look(2, 6), 2);
        check.due("its name is free", tree.child(0, 1), NONE);
        check.due("an alias can be removed", tree.remove(2), true);
        check.due("alias of a removed alias", tree.look(3, 2), NOTHING);
        check.due("aliases of nothing", tree.state(2), 1);
        check.due("remove(3)", tree.remove(3), true);
        check.due("aliases of nothing", tree.state(2), 0);
    }

    private static void removeRefuses() {
        check.part("promise 3, refused");
        EntryTree tree = new EntryTree();
        tree.add(0, 1, NONE);
        tree.add(1, 1, 1);
        List<Integer> before = Snapshot.of(tree);
        for (int far : Check.FAR) {
            check.due("remove " + far, tree.remove(far), false);
        }
        check.due("not there", tree.remove(3), false);
        check.due("the root", tree.remove(0), false);
        check.due("something under it", tree.remove(1), false);
        check.holds("nothing changed", before.equals(Snapshot.of(tree)));
        check.due("the root alone", new EntryTree().remove(0), false);
        check.due("remove(2)", tree.remove(2), true);
        check.due("twice", tree.remove(2), false);
        check.due("nothing under it now", tree.remove(1), true);
    }

    private static void removedNumberComesBackEmpty() {
        check.part("promise 3, number used again");
        EntryTree tree = new EntryTree();
        tree.add(0, 1, NONE);
        tree.add(0, 2, 1);
        for (int a = 0; a < 6; a++) {
            tree.put(1, a, 15 - a, true);
            for (int group = 0; group < 4; group += 3) {
                tree.rule(1, group, a, 0);
            }
        }
        tree.remove(1);
        check.due("add", tree.add(0, 3, NONE), 1);
        for (int a = 0; a < 6; a++) {
            for (int group = 0; group < 4; group++) {
                check.due("no value, no rule", tree.values(1, a, group), 0);
            }
        }
        check.due("the old alias", tree.look(2, 2), NOTHING);
        check.due("no alias", tree.look(1, 2), NONE);
    }

    private static EntryTree grown() {
        EntryTree tree = new EntryTree();
        tree.add(0, 1, NONE); // 1
        tree.add(1, 2, NONE); // 2
        tree.add(2, 3, NONE); // 3
        tree.add(0, 4, NONE); // 4
        tree.add(0, 5, 4);    // 5
        tree.add(4, 2, NONE); // 6
        return tree;
    }

    private static void moveTakesSubtree() {
        check.part("promise 4");
        EntryTree tree = grown();
        check.due("move(1, 6, 99)", tree.move(1, 6, 99), true);
        check.due("parent", tree.look(1, 0), 6);
        check.due("name", tree.look(1, 1), 99);
        check.due("depth of what is below", tree.look(3, 5), 5);
        check.due("below 4", tree.look(4, 4), 4);
        check.due("serial", tree.state(0), 7);
        check.due("own serial", tree.look(1, 6), 7);
        check.due("serial of what is below", tree.look(2, 6), 2);
        check.due("serial of the parent", tree.look(6, 6), 6);
        check.due("no more at the old place", tree.child(0, 1), NONE);
        check.due("at the new place", tree.child(6, 99), 1);
        check.due("an alias moves", tree.move(5, 3, 0), true);
        check.due("it stays an alias", tree.look(5, 2), 4);
        check.due("back to the root", tree.move(2, 0, 1), true);
        check.due("depth", tree.look(5, 5), 3);
    }

    private static void moveWithinItsParent() {
        check.part("promise 4, same parent");
        EntryTree tree = grown();
        check.due("another name", tree.move(1, 0, 50), true);
        check.due("name", tree.look(1, 1), 50);
        check.due("its own name", tree.move(1, 0, 50), true);
        check.due("serial", tree.look(1, 6), 8);
    }

    private static void moveRefuses() {
        check.part("promise 4, refused");
        EntryTree tree = grown();
        List<Integer> before = Snapshot.of(tree);
        for (int far : Check.FAR) {
            check.due("e " + far, tree.move(far, 4, 50), false);
            check.due("parent " + far, tree.move(1, far, 50), false);
            if (far != 48) {
                check.due("name " + far, tree.move(1, 4, far), false);
            }
        }
        check.due("not there", tree.move(7, 4, 50), false);
        check.due("parent not there", tree.move(1, 7, 50), false);
        check.due("the root", tree.move(0, 4, 50), false);
        check.due("under an alias", tree.move(1, 5, 50), false);
        check.due("under itself", tree.move(1, 1, 50), false);
        check.due("under what is below it", tree.move(1, 3, 50), false);
        check.due("name taken", tree.move(2, 4, 2), false);
        check.due("name taken where it is", tree.move(1, 0, 4), false);
        check.holds("nothing changed", before.equals(Snapshot.of(tree)));
    }

    private static void pointChangesAlias() {
        check.part("promise 5");
        EntryTree tree = grown();
        check.due("point(5, 0)", tree.point(5, 0), true);
        check.due("alias", tree.look(5, 2), 0);
        check.due("serial", tree.look(5, 6), 7);
        check.due("to the same", tree.point(5, 0), true);
        check.due("serial", tree.look(5, 6), 8);
        check.due("to itself", tree.point(5, 5), true);
        check.due("alias", tree.look(5, 2), 5);
        check.due("no alias of nothing", tree.state(2), 0);
        check.due("point(5, 6)", tree.point(5, 6), true);
        tree.remove(6);
        check.due("aliases of nothing", tree.state(2), 1);
        check.due("from nothing", tree.point(5, 3), true);
        check.due("aliases of nothing", tree.state(2), 0);
        check.due("state(0)", tree.state(0), 12);
    }

    private static void pointRefuses() {
        check.part("promise 5, refused");
        EntryTree tree = grown();
        List<Integer> before = Snapshot.of(tree);
        for (int far : Check.FAR) {
            check.due("e " + far, tree.point(far, 0), false);
            check.due("to " + far, tree.point(5, far), false);
        }
        check.due("not there", tree.point(7, 0), false);
        check.due("to what is not there", tree.point(5, 7), false);
        check.due("no alias", tree.point(1, 4), false);
        check.due("the root", tree.point(0, 4), false);
        check.holds("nothing changed", before.equals(Snapshot.of(tree)));
    }

    private static void childFindsByName() {
        check.part("promise 12");
        EntryTree tree = grown();
        check.due("child(0, 1)", tree.child(0, 1), 1);
        check.due("child(0, 5)", tree.child(0, 5), 5);
        check.due("child(1, 2)", tree.child(1, 2), 2);
        check.due("child(4, 2)", tree.child(4, 2), 6);
        check.due("no such name", tree.child(0, 2), NONE);
        check.due("not through an alias", tree.child(5, 2), NONE);
        check.due("parent not there", tree.child(7, 2), NONE);
        check.due("the root has no parent", tree.child(NONE, NONE), NONE);
        for (int far : Check.FAR) {
            check.due("parent " + far, tree.child(far, 1), NONE);
            check.due("name " + far, tree.child(0, far), NONE);
        }
        tree.remove(3);
        check.due("what was removed", tree.child(2, 3), NONE);
    }

    private static void lookTellsOfTree() {
        check.part("promise 13");
        EntryTree tree = grown();
        int[][] due = {
            {NONE, NONE, NONE, 3, 6, 0, 0, 0},
            {0, 1, NONE, 1, 2, 1, 1, 1},
            {1, 2, NONE, 1, 1, 2, 2, 2},
            {2, 3, NONE, 0, 0, 3, 3, 3},
            {0, 4, NONE, 1, 1, 1, 4, 4},
            {0, 5, 4, 0, 0, 1, 5, 4},
            {4, 2, NONE, 0, 0, 2, 6, 6},
        };
        for (int e = 0; e < due.length; e++) {
            for (int what = 0; what < 8; what++) {
                check.due("look(" + e + ", " + what + ")", tree.look(e, what), due[e][what]);
            }
        }
    }

    private static void lookTellsWhereAliasesLead() {
        check.part("promise 13, leads to");
        EntryTree tree = new EntryTree();
        for (int e = 1; e < 48; e++) {
            tree.add(0, e, e - 1);
        }
        check.due("a chain of 47 aliases", tree.look(47, 7), 0);
        check.due("point(1, 47)", tree.point(1, 47), true);
        check.due("a ring of 47 aliases", tree.look(47, 7), NOTHING);
        check.due("point(1, 1)", tree.point(1, 1), true);
        check.due("an alias of itself", tree.look(1, 7), NOTHING);
        check.due("a chain to an alias of itself", tree.look(47, 7), NOTHING);
        check.due("it is an alias of one still", tree.look(1, 2), 1);
        tree.remove(1);
        check.due("an alias of nothing", tree.look(2, 7), NOTHING);
        check.due("a chain to an alias of nothing", tree.look(3, 7), NOTHING);
        check.due("what it is an alias of", tree.look(3, 2), 2);
    }

    private static void lookOfOthersIsNone() {
        check.part("promise 13, others");
        EntryTree tree = grown();
        for (int far : Check.FAR) {
            check.due("what " + far, tree.look(1, far), NONE);
            for (int what = 0; what < 8; what++) {
                check.due("e " + far, tree.look(far, what), NONE);
            }
        }
        check.due("what 8", tree.look(1, 8), NONE);
        check.due("not there", tree.look(7, 3), NONE);
        tree.remove(6);
        for (int what = 0; what < 8; what++) {
            check.due("removed, what " + what, tree.look(6, what), NONE);
        }
    }
}
