/** The boundary cases that promises 1 to 5 name, a method for each: new object, add, remove, move, point. */
public final class TreeEdgesTest {
    private static final int NONE = Edges.NONE, NOTHING = Edges.NOTHING;
    private static final Edges edges = new Edges();

    public static void main(String[] args) {
        theQuestionsSeeAChange();
        aNewObjectHasTheRootAlone();
        aNewObjectHasAnEmptyFilter();
        aNewObjectHasNothingFound();

        addUnderWhatIsNotThere();
        addUnderAnAlias();
        addByANameOutOfRange();
        addByTheLeastAndGreatestName();
        addByANameTakenThere();
        addByANameTakenElsewhere();
        addByANameThatIsFreeAgain();
        addAnAliasOfWhatIsNotThere();
        addAnAliasOfWhatIsThere();
        addTheLastThatFits();
        addWhenThereAre48();
        addTakesTheLeastFreeNumber();

        removeWhatIsNotThere();
        removeTheRoot();
        removeWhatHasSomethingUnderIt();
        removeLeavesAliasesOfNothing();
        removedNumberComesBackEmpty();
        removeLeavesItsNeighboursAlone();

        moveWhatIsNotThere();
        moveUnderWhatIsNotThere();
        moveTheRoot();
        moveUnderAnAlias();
        moveUnderItself();
        moveUnderWhatIsBelowIt();
        moveByANameOutOfRange();
        moveByTheLeastAndGreatestName();
        moveByANameTakenThereByAnother();
        moveByItsOwnName();
        moveWhereItIs();
        moveTakesAllBelow();

        pointWhatIsNotThere();
        pointToWhatIsNotThere();
        pointWhatIsNoAlias();
        pointToItself();
        pointAnAliasOfNothing();
        pointToAnyEntry();
        edges.end();
    }

    private static void theQuestionsSeeAChange() {
        edges.part("the twins are told apart");
        edges.changesSomething("an entry", Edges::stock, t -> t.add(0, 50, NONE));
        edges.changesSomething("an entry gone", Edges::stock, t -> t.remove(3));
        edges.changesSomething("a name", Edges::stock, t -> t.move(3, 2, 50));
        edges.changesSomething("an alias", Edges::stock, t -> t.point(5, 1));
        edges.changesSomething("a value", Edges::stock, t -> t.put(1, 5, 15, true));
        edges.changesSomething("a rule", Edges::stock, t -> t.rule(1, 2, 4, 0));
        edges.changesSomething("a rule of the last group", Edges::stock, t -> t.rule(8, 3, 4, 0));
        edges.changesSomething("a token", Edges::stock, t -> t.token(0, 0, 0));
        edges.changesSomething("a filter gone", Edges::stock, EntryTree::wipe);
        edges.changesSomething("what is found", Edges::stock, t -> t.search(0, 0, 0, 0));
        edges.changesSomething("a serial", Edges::stock, t -> t.point(5, 4));
    }

    private static void nothing(EntryTree tree) {
    }

    private static void aNewObjectHasTheRootAlone() {
        edges.part("promise 1, 'the root alone'");
        edges.answers("entries", TreeEdgesTest::nothing, t -> t.state(1), 1);
        edges.answers("under the root", TreeEdgesTest::nothing, t -> t.look(0, 3), 0);
        edges.answers("below the root", TreeEdgesTest::nothing, t -> t.look(0, 4), 0);
        for (int i = 1; i < 48; i++) {
            int e = i;
            edges.answers("look(" + e + ", 7)", TreeEdgesTest::nothing, t -> t.look(e, 7), NONE);
        }
        for (int i = 0; i < 24; i++) {
            int a = i % 6, group = i / 6;
            edges.answers("no value, no rule", TreeEdgesTest::nothing, t -> t.values(0, a, group), 0);
        }
        for (int i = 0; i < 100; i++) {
            int name = i;
            edges.answers("child(0, " + name + ")", TreeEdgesTest::nothing, t -> t.child(0, name), NONE);
        }
    }

    private static void aNewObjectHasAnEmptyFilter() {
        edges.part("promise 1, 'an empty filter'");
        edges.answers("wipe()", TreeEdgesTest::nothing, EntryTree::wipe, 0);
        edges.answers("the first token", TreeEdgesTest::nothing, t -> t.token(0, 0, 0), 1);
        edges.findsNothing("search", TreeEdgesTest::nothing, t -> t.search(0, 0, 0, 0));
    }

    private static void aNewObjectHasNothingFound() {
        edges.part("promise 1, 'nothing found'");
        for (int i = 0; i < 48; i++) {
            int k = i;
            edges.answers("found(" + k + ")", TreeEdgesTest::nothing, t -> t.found(k), NONE);
        }
    }

    private static void addUnderWhatIsNotThere() {
        edges.part("promise 2, 'if parent is not there'");
        for (int far : Edges.NO_ENTRIES) {
            edges.answersNone("parent " + far, Edges::stock, t -> t.add(far, 50, NONE));
        }
        edges.answersNone("never there", Edges::stock, t -> t.add(9, 50, NONE));
        edges.answersNone("the last number", Edges::stock, t -> t.add(47, 50, NONE));
        edges.answersNone("removed", Edges::stock, t -> t.add(6, 50, NONE));
        edges.accepts("there at last", Edges::full, t -> t.remove(46) && t.add(47, 0, NONE) == 46);
    }

    private static void addUnderAnAlias() {
        edges.part("promise 2, 'if parent is .. an alias'");
        edges.answersNone("of an entry", Edges::stock, t -> t.add(5, 50, NONE));
        edges.answersNone("of NOTHING", Edges::stock, t -> t.add(7, 50, NONE));
        edges.answersNone("of itself", Edges::stock, t -> t.add(8, 50, NONE));
        edges.answersNone("and what is added is one too", Edges::stock, t -> t.add(5, 50, 1));
    }

    private static void addByANameOutOfRange() {
        edges.part("promise 2, 'the name is not 0..99'");
        for (int far : Edges.NO_NAMES) {
            edges.answersNone("name " + far, Edges::stock, t -> t.add(4, far, NONE));
        }
    }

    private static void addByTheLeastAndGreatestName() {
        edges.part("terms, 'a name, 0..99'");
        edges.answers("0", Edges::stock, t -> t.add(0, 0, NONE), 6);
        edges.answers("99", Edges::stock, t -> t.add(0, 99, NONE), 6);
        edges.accepts("0 is kept", Edges::stock, t -> t.look(t.add(0, 0, NONE), 1) == 0);
        edges.accepts("99 is kept", Edges::stock, t -> t.look(t.add(0, 99, NONE), 1) == 99);
    }

    private static void addByANameTakenThere() {
        edges.part("promise 2, 'or taken there'");
        edges.answersNone("under the root", Edges::stock, t -> t.add(0, 1, NONE));
        edges.answersNone("by an alias", Edges::stock, t -> t.add(0, 5, NONE));
        edges.answersNone("by an alias of NOTHING", Edges::stock, t -> t.add(4, 7, NONE));
        edges.answersNone("deeper", Edges::stock, t -> t.add(2, 3, NONE));
        edges.answersNone("for an alias", Edges::stock, t -> t.add(2, 3, 1));
        edges.answersNone("name 0", Edges::chain, t -> t.add(46, 0, NONE));
        edges.answersNone("name 0, with room", TreeEdgesTest::outermostNames, t -> t.add(0, 0, NONE));
        edges.answersNone("name 99, with room", TreeEdgesTest::outermostNames, t -> t.add(0, 99, NONE));
    }

    private static void outermostNames(EntryTree tree) {
        tree.add(0, 0, NONE);
        tree.add(0, 99, NONE);
    }

    private static void addByANameTakenElsewhere() {
        edges.part("terms, 'that no other one under that parent has'");
        edges.answers("by its parent", Edges::stock, t -> t.add(1, 1, NONE), 6);
        edges.answers("under another one", Edges::stock, t -> t.add(4, 3, NONE), 6);
        edges.answers("below", Edges::stock, t -> t.add(0, 2, NONE), 6);
    }

    private static void addByANameThatIsFreeAgain() {
        edges.part("promise 2, a name that is free again");
        edges.answers("removed", Edges::stock, t -> t.add(4, 2, NONE), 6);
        edges.accepts("moved away", Edges::stock, t -> t.move(1, 4, 50) && t.add(0, 1, NONE) == 6);
        edges.accepts("named anew", Edges::stock, t -> t.move(1, 0, 50) && t.add(0, 1, NONE) == 6);
    }

    private static void addAnAliasOfWhatIsNotThere() {
        edges.part("promise 2, 'alias is neither NONE nor there'");
        for (int far : Edges.NO_ENTRIES) {
            if (far != NONE) {
                edges.answersNone("alias " + far, Edges::stock, t -> t.add(0, 50, far));
            }
        }
        edges.answersNone("never there", Edges::stock, t -> t.add(0, 50, 9));
        edges.answersNone("the last number", Edges::stock, t -> t.add(0, 50, 47));
        edges.answersNone("removed, and its own number to be", Edges::stock, t -> t.add(0, 50, 6));
        edges.answersNone("NOTHING", Edges::stock, t -> t.add(0, 50, NOTHING));
    }

    private static void addAnAliasOfWhatIsThere() {
        edges.part("promise 2, 'an alias of alias (NONE: no alias)'");
        edges.accepts("NONE", Edges::stock, t -> t.look(t.add(0, 50, NONE), 2) == NONE);
        edges.accepts("the root", Edges::stock, t -> t.look(t.add(0, 50, 0), 2) == 0);
        edges.accepts("its parent", Edges::stock, t -> t.look(t.add(3, 50, 3), 2) == 3);
        edges.accepts("an alias", Edges::stock, t -> t.look(t.add(0, 50, 5), 2) == 5);
        edges.accepts("an alias of NOTHING", Edges::stock, t -> t.look(t.add(0, 50, 7), 2) == 7);
        edges.accepts("an alias of itself", Edges::stock, t -> t.look(t.add(0, 50, 8), 2) == 8);
        edges.accepts("the last number", Edges::full, t -> t.remove(1) && t.look(t.add(0, 50, 47), 2) == 47);
    }

    private static void addTheLastThatFits() {
        edges.part("terms, 'entries are 0..47'");
        edges.answers("the 48th, directly under the root", t -> {
            Edges.full(t);
            t.remove(47);
        }, t -> t.add(0, 99, NONE), 47);
        edges.answers("the 48th, the deepest", t -> {
            Edges.chain(t);
            t.remove(47);
        }, t -> t.add(46, 99, NONE), 47);
        edges.answers("the 48th, an alias", t -> {
            Edges.full(t);
            t.remove(47);
        }, t -> t.add(46, 99, 46), 47);
        edges.answers("48 are there", Edges::full, t -> t.state(1), 48);
    }

    private static void addWhenThereAre48() {
        edges.part("promise 2, 'or there are 48'");
        edges.answersNone("directly under the root", Edges::full, t -> t.add(0, 99, NONE));
        edges.answersNone("under another one", Edges::full, t -> t.add(47, 0, NONE));
        edges.answersNone("an alias", Edges::full, t -> t.add(0, 99, 47));
        edges.answersNone("below the deepest", Edges::chain, t -> t.add(47, 0, NONE));
        edges.accepts("room again", Edges::full, t -> t.add(0, 99, NONE) == NONE && t.remove(20) && t.add(0, 99, NONE) == 20);
    }

    private static void addTakesTheLeastFreeNumber() {
        edges.part("terms, 'adding takes the least number that is free'");
        edges.answers("in a new object", TreeEdgesTest::nothing, t -> t.add(0, 0, NONE), 1);
        edges.answers("a gap", Edges::stock, t -> t.add(0, 50, NONE), 6);
        edges.accepts("behind all when the gap is filled", Edges::stock,
            t -> t.add(0, 50, NONE) == 6 && t.add(0, 51, NONE) == 9);
        edges.accepts("the lesser of two gaps, not the one that came last", Edges::full,
            t -> t.remove(10) && t.remove(30) && t.add(0, 50, NONE) == 10 && t.add(0, 51, NONE) == 30);
        edges.accepts("the lesser of two gaps, not the one that came first", Edges::full,
            t -> t.remove(30) && t.remove(10) && t.add(0, 50, NONE) == 10 && t.add(0, 51, NONE) == 30);
        edges.accepts("the first and the last number", Edges::full,
            t -> t.remove(47) && t.remove(1) && t.add(0, 50, NONE) == 1 && t.add(0, 51, NONE) == 47);
    }

    private static void removeWhatIsNotThere() {
        edges.part("promise 3, 'if it is not there'");
        for (int far : Edges.NO_ENTRIES) {
            edges.refuses("remove(" + far + ")", Edges::stock, t -> t.remove(far));
        }
        edges.refuses("never there", Edges::stock, t -> t.remove(9));
        edges.refuses("the last number", Edges::stock, t -> t.remove(47));
        edges.refuses("removed", Edges::stock, t -> t.remove(6));
        edges.accepts("the last number, there", Edges::full, t -> t.remove(47));
    }

    private static void removeTheRoot() {
        edges.part("promise 3, 'is the root'");
        edges.refuses("with something under it", Edges::stock, t -> t.remove(0));
        edges.refuses("alone", TreeEdgesTest::nothing, t -> t.remove(0));
        edges.refuses("alone again", t -> {
            t.add(0, 1, NONE);
            t.remove(1);
        }, t -> t.remove(0));
    }

    private static void removeWhatHasSomethingUnderIt() {
        edges.part("promise 3, 'or has something under it'");
        edges.refuses("one that has more below", Edges::stock, t -> t.remove(1));
        edges.refuses("one", Edges::stock, t -> t.remove(2));
        edges.refuses("aliases alone", Edges::stock, t -> t.remove(4));
        edges.refuses("an alias of itself", t -> {
            t.add(0, 1, NONE);
            t.add(1, 1, 1);
        }, t -> t.remove(1));
        edges.refuses("what moved there", t -> {
            Edges.stock(t);
            t.move(4, 3, 0);
        }, t -> t.remove(3));
        edges.accepts("no more", Edges::stock, t -> t.remove(3) && t.remove(2) && t.remove(1));
        edges.accepts("moved away", Edges::stock, t -> t.move(3, 0, 50) && t.remove(2));
        edges.accepts("an alias", Edges::stock, t -> t.remove(5));
        edges.accepts("an alias of NOTHING", Edges::stock, t -> t.remove(7));
        edges.accepts("an alias of itself", Edges::stock, t -> t.remove(8));
    }

    private static void removeLeavesAliasesOfNothing() {
        edges.part("promise 3, 'aliases of it are aliases of NOTHING then'");
        edges.accepts("one", Edges::stock, t -> t.point(5, 3) && t.remove(3) && t.look(5, 2) == NOTHING);
        edges.accepts("two", Edges::stock, t -> t.point(5, 3) && t.point(8, 3) && t.remove(3)
            && t.look(5, 2) == NOTHING && t.look(8, 2) == NOTHING && t.state(2) == 3);
        edges.accepts("not those of others", Edges::stock, t -> t.remove(3) && t.look(5, 2) == 4 && t.look(8, 2) == 8);
        edges.accepts("nor what is no alias", Edges::stock, t -> t.remove(3) && t.look(2, 2) == NONE);
        edges.accepts("not an alias of an alias of it", Edges::stock,
            t -> t.point(5, 3) && t.point(8, 5) && t.remove(3) && t.look(8, 2) == 5);
        edges.accepts("of an alias", Edges::stock, t -> t.point(8, 5) && t.remove(5) && t.look(8, 2) == NOTHING);
        edges.accepts("of an alias of itself", Edges::stock,
            t -> t.remove(8) && t.state(2) == 1 && t.add(0, 50, NONE) == 6 && t.add(0, 51, NONE) == 8 && t.look(8, 2) == NONE);
        edges.accepts("the last number", Edges::full,
            t -> t.remove(1) && t.add(0, 1, 47) == 1 && t.remove(47) && t.look(1, 2) == NOTHING);
        edges.accepts("their own serial stays", Edges::stock,
            t -> t.point(5, 3) && t.look(5, 6) == 14 && t.remove(3) && t.look(5, 6) == 14 && t.state(0) == 15);
        edges.accepts("they stay so when the number is used again", Edges::stock,
            t -> t.point(5, 3) && t.remove(3) && t.add(0, 50, NONE) == 3 && t.look(5, 2) == NOTHING && t.look(7, 2) == NOTHING);
    }

    private static void removedNumberComesBackEmpty() {
        edges.part("terms, '(empty at first)' and 'nothing (at first)', for a number used again");
        for (int i = 0; i < 24; i++) {
            int a = i % 6, group = i / 6;
            edges.answers("a " + a + ", group " + group, t -> {
                t.add(0, 1, NONE);
                t.put(1, a, 15, true);
                t.rule(1, group, a, 0);
                t.remove(1);
                t.add(0, 1, NONE);
            }, t -> t.values(1, a, group), 0);
        }
        edges.answers("a rule that said YES", t -> {
            t.add(0, 1, NONE);
            t.rule(1, 0, 0, 1);
            t.rule(0, 0, 0, 0);
            t.remove(1);
            t.add(0, 1, NONE);
        }, t -> t.values(1, 0, 0), Edges.HIDDEN);
        edges.answers("the last number", t -> {
            Edges.full(t);
            t.put(47, 5, 15, true);
            t.remove(47);
            t.add(0, 47, NONE);
        }, t -> t.values(47, 5, 3), 0);
    }

    private static void removeLeavesItsNeighboursAlone() {
        edges.part("promise 3, 'removes an entry', and no more than it");
        Edges.Steps withValues = t -> {
            for (int e = 1; e <= 3; e++) {
                t.add(0, e, NONE);
                for (int a = 0; a < 6; a++) {
                    t.put(e, a, 15 - a, true);
                }
            }
            t.remove(2);
        };
        Edges.Steps withRules = t -> {
            for (int e = 1; e <= 3; e++) {
                t.add(0, e, NONE);
                for (int i = 0; i < 24; i++) {
                    t.rule(e, i / 6, i % 6, 0);
                }
            }
            t.remove(2);
        };
        for (int e : new int[] {1, 3}) {
            for (int i = 0; i < 24; i++) {
                int a = i % 6, group = i / 6;
                edges.answers("values of " + e + ", a " + a, withValues, t -> t.values(e, a, group), 1 << 15 - a);
                edges.answers("rule of " + e + ", a " + a + ", group " + group, withRules,
                    t -> t.values(e, a, group), Edges.HIDDEN);
            }
        }
        edges.accepts("name, parent and serial", withValues, t -> t.child(0, 1) == 1 && t.child(0, 3) == 3
            && t.look(1, 6) == 7 && t.look(3, 6) == 21 && t.look(0, 3) == 2);
    }

    private static void moveWhatIsNotThere() {
        edges.part("promise 4, 'if one is not there', the entry");
        for (int far : Edges.NO_ENTRIES) {
            edges.refuses("e " + far, Edges::stock, t -> t.move(far, 4, 50));
        }
        edges.refuses("never there", Edges::stock, t -> t.move(9, 4, 50));
        edges.refuses("the last number", Edges::stock, t -> t.move(47, 4, 50));
        edges.refuses("removed", Edges::stock, t -> t.move(6, 4, 50));
        edges.accepts("the last number, there", Edges::full, t -> t.move(47, 1, 50));
    }

    private static void moveUnderWhatIsNotThere() {
        edges.part("promise 4, 'if one is not there', the parent");
        for (int far : Edges.NO_ENTRIES) {
            edges.refuses("parent " + far, Edges::stock, t -> t.move(3, far, 50));
        }
        edges.refuses("never there", Edges::stock, t -> t.move(3, 9, 50));
        edges.refuses("the last number", Edges::stock, t -> t.move(3, 47, 50));
        edges.refuses("removed", Edges::stock, t -> t.move(3, 6, 50));
        edges.refuses("both", Edges::stock, t -> t.move(9, 10, 50));
        edges.accepts("the last number, there", Edges::full, t -> t.move(1, 47, 50));
    }

    private static void moveTheRoot() {
        edges.part("promise 4, 'it is the root'");
        edges.refuses("under another one", Edges::stock, t -> t.move(0, 4, 50));
        edges.refuses("under itself", Edges::stock, t -> t.move(0, 0, 50));
        edges.refuses("under NONE", Edges::stock, t -> t.move(0, NONE, NONE));
        edges.refuses("alone", TreeEdgesTest::nothing, t -> t.move(0, 0, 0));
    }

    private static void moveUnderAnAlias() {
        edges.part("promise 4, 'the parent is an alias'");
        edges.refuses("of an entry", Edges::stock, t -> t.move(3, 5, 50));
        edges.refuses("of NOTHING", Edges::stock, t -> t.move(3, 7, 50));
        edges.refuses("of itself", Edges::stock, t -> t.move(3, 8, 50));
        edges.refuses("an alias under an alias", Edges::stock, t -> t.move(7, 5, 50));
    }

    private static void moveUnderItself() {
        edges.part("promise 4, 'the parent .. is it'");
        edges.refuses("with something below", Edges::stock, t -> t.move(1, 1, 50));
        edges.refuses("with nothing below", Edges::stock, t -> t.move(3, 3, 50));
        edges.refuses("by its own name", Edges::stock, t -> t.move(3, 3, 3));
        edges.refuses("an alias", Edges::stock, t -> t.move(5, 5, 50));
    }

    private static void moveUnderWhatIsBelowIt() {
        edges.part("promise 4, 'the parent .. is .. below it'");
        edges.refuses("directly under it", Edges::stock, t -> t.move(1, 2, 50));
        edges.refuses("deeper", Edges::stock, t -> t.move(1, 3, 50));
        edges.refuses("46 deeper", Edges::chain, t -> t.move(1, 47, 50));
        edges.accepts("what it is below, by two", Edges::stock, t -> t.move(3, 1, 50));
        edges.accepts("what it is below, by 47", Edges::chain, t -> t.move(47, 0, 50));
        edges.accepts("beside it", Edges::stock, t -> t.move(1, 4, 50));
        edges.accepts("beside it, deeper", Edges::stock, t -> t.move(4, 3, 50));
        edges.accepts("no more below it", Edges::stock, t -> t.move(2, 0, 50) && t.move(1, 3, 50));
    }

    private static void moveByANameOutOfRange() {
        edges.part("promise 4, 'the name is not 0..99'");
        for (int far : Edges.NO_NAMES) {
            edges.refuses("name " + far, Edges::stock, t -> t.move(3, 4, far));
        }
        edges.refuses("-1 where it is", Edges::stock, t -> t.move(3, 2, -1));
        edges.refuses("100 where it is", Edges::stock, t -> t.move(3, 2, 100));
    }

    private static void moveByTheLeastAndGreatestName() {
        edges.part("promise 4, names 0 and 99");
        edges.accepts("0", Edges::stock, t -> t.move(3, 4, 0) && t.look(3, 1) == 0);
        edges.accepts("99", Edges::stock, t -> t.move(3, 4, 99) && t.look(3, 1) == 99);
        edges.accepts("0 where it is", Edges::stock, t -> t.move(3, 2, 0) && t.look(3, 1) == 0);
        edges.accepts("99 where it is", Edges::stock, t -> t.move(3, 2, 99) && t.look(3, 1) == 99);
    }

    private static void moveByANameTakenThereByAnother() {
        edges.part("promise 4, 'or taken there by another one'");
        edges.refuses("where it is", Edges::stock, t -> t.move(1, 0, 4));
        edges.refuses("where it is, by an alias", Edges::stock, t -> t.move(1, 0, 5));
        edges.refuses("elsewhere", Edges::stock, t -> t.move(3, 0, 1));
        edges.refuses("elsewhere, by an alias of NOTHING", Edges::stock, t -> t.move(3, 4, 7));
        edges.refuses("its own name, which another one has there", t -> {
            Edges.stock(t);
            t.add(4, 3, NONE);
        }, t -> t.move(3, 4, 3));
        edges.refuses("name 0", t -> {
            Edges.stock(t);
            t.add(4, 0, NONE);
        }, t -> t.move(3, 4, 0));
        edges.accepts("free since a removal", Edges::stock, t -> t.move(3, 4, 2));
        edges.accepts("taken where it was alone", Edges::stock, t -> t.move(4, 2, 1));
    }

    private static void moveByItsOwnName() {
        edges.part("promise 4, a name that it has itself");
        edges.accepts("where it is", Edges::stock, t -> t.move(3, 2, 3));
        edges.accepts("its serial grows", Edges::stock, t -> t.move(3, 2, 3) && t.look(3, 6) == 14 && t.state(0) == 14);
        edges.accepts("elsewhere", Edges::stock, t -> t.move(3, 4, 3) && t.child(4, 3) == 3 && t.child(2, 3) == NONE);
        edges.accepts("an alias where it is", Edges::stock, t -> t.move(7, 4, 7));
    }

    private static void moveWhereItIs() {
        edges.part("promise 4, '(that where it is, too)'");
        edges.accepts("another name", Edges::stock, t -> t.move(1, 0, 50) && t.child(0, 50) == 1 && t.child(0, 1) == NONE);
        edges.accepts("nothing below goes", Edges::stock, t -> t.move(1, 0, 50) && t.look(1, 4) == 2 && t.look(0, 4) == 7);
    }

    private static void moveTakesAllBelow() {
        edges.part("promise 4, 'with all below it'");
        edges.accepts("the deepest goes with it", Edges::stock, t -> t.move(1, 4, 50) && t.look(3, 5) == 4 && t.look(4, 4) == 5);
        edges.accepts("its name and parent stay", Edges::stock, t -> t.move(1, 4, 50) && t.look(3, 0) == 2 && t.look(3, 1) == 3);
        edges.accepts("its serial stays", Edges::stock, t -> t.move(1, 4, 50) && t.look(2, 6) == 2 && t.look(1, 6) == 14);
        edges.accepts("a chain of 47", Edges::chain, t -> t.move(2, 0, 50) && t.look(47, 5) == 46 && t.look(1, 4) == 0);
        edges.accepts("an alias stays one of the same", Edges::stock, t -> t.move(5, 3, 50) && t.look(5, 2) == 4);
        edges.accepts("an alias of it leads there still", Edges::stock, t -> t.move(4, 3, 50) && t.look(5, 7) == 4);
    }

    private static void pointWhatIsNotThere() {
        edges.part("promise 5, 'if one is not there', the alias");
        for (int far : Edges.NO_ENTRIES) {
            edges.refuses("e " + far, Edges::stock, t -> t.point(far, 1));
        }
        edges.refuses("never there", Edges::stock, t -> t.point(9, 1));
        edges.refuses("the last number", Edges::stock, t -> t.point(47, 1));
        edges.refuses("removed", Edges::stock, t -> t.point(6, 1));
        edges.refuses("an alias that was removed", t -> {
            Edges.stock(t);
            t.remove(5);
        }, t -> t.point(5, 1));
    }

    private static void pointToWhatIsNotThere() {
        edges.part("promise 5, 'if one is not there', where it points to");
        for (int far : Edges.NO_ENTRIES) {
            edges.refuses("to " + far, Edges::stock, t -> t.point(5, far));
        }
        edges.refuses("never there", Edges::stock, t -> t.point(5, 9));
        edges.refuses("the last number", Edges::stock, t -> t.point(5, 47));
        edges.refuses("removed", Edges::stock, t -> t.point(5, 6));
        edges.refuses("NONE", Edges::stock, t -> t.point(5, NONE));
        edges.refuses("NOTHING", Edges::stock, t -> t.point(5, NOTHING));
        edges.refuses("NOTHING, where it is so", Edges::stock, t -> t.point(7, NOTHING));
    }

    private static void pointWhatIsNoAlias() {
        edges.part("promise 5, 'or e no alias'");
        edges.refuses("an entry", Edges::stock, t -> t.point(3, 1));
        edges.refuses("an entry to itself", Edges::stock, t -> t.point(3, 3));
        edges.refuses("the root", Edges::stock, t -> t.point(0, 1));
        edges.refuses("to an alias", Edges::stock, t -> t.point(3, 5));
        edges.refuses("a number that was an alias", t -> {
            t.add(0, 1, 0);
            t.remove(1);
            t.add(0, 1, NONE);
        }, t -> t.point(1, 0));
    }

    private static void pointToItself() {
        edges.part("promise 5, '(or itself)'");
        edges.accepts("an alias of another", Edges::stock, t -> t.point(5, 5) && t.look(5, 2) == 5);
        edges.accepts("an alias of NOTHING", Edges::stock, t -> t.point(7, 7) && t.look(7, 2) == 7 && t.state(2) == 0);
        edges.accepts("it is so already", Edges::stock, t -> t.point(8, 8) && t.look(8, 6) == 14);
    }

    private static void pointAnAliasOfNothing() {
        edges.part("promise 5, an alias of NOTHING");
        edges.accepts("to an entry", Edges::stock, t -> t.point(7, 1) && t.look(7, 2) == 1 && t.state(2) == 0);
    }

    private static void pointToAnyEntry() {
        edges.part("promise 5, 'another entry'");
        edges.accepts("the root", Edges::stock, t -> t.point(5, 0) && t.look(5, 2) == 0);
        edges.accepts("its parent", Edges::stock, t -> t.point(7, 4) && t.look(7, 2) == 4);
        edges.accepts("an alias", Edges::stock, t -> t.point(5, 7) && t.look(5, 2) == 7);
        edges.accepts("the same again", Edges::stock, t -> t.point(5, 4) && t.look(5, 2) == 4 && t.look(5, 6) == 14);
        edges.accepts("the last number", Edges::full, t -> t.remove(1) && t.add(0, 1, 0) == 1 && t.point(1, 47) && t.look(1, 2) == 47);
        edges.accepts("the alias is the last number", Edges::full, t -> t.remove(47) && t.add(0, 1, 0) == NONE
            && t.add(0, 47, 0) == 47 && t.point(47, 1) && t.look(47, 2) == 1);
    }
}
