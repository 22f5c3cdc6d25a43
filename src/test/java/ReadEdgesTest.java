/** The boundary cases that promises 12, 13, 15 and 16 name, and those of the serial, a method for each. */
public final class ReadEdgesTest {
    private static final int NONE = Edges.NONE, NOTHING = Edges.NOTHING;
    private static final int LAST = 1000000000;
    private static final Edges edges = new Edges();

    public static void main(String[] args) {
        childOfWhatIsNotThere();
        childByANameThatNoneHas();
        childByTheLeastAndGreatestName();
        childOfAnAlias();
        childThatIsTheRoot();

        lookAtWhatIsNotThere();
        lookForOthers();
        lookAtTheRoot();
        lookAtTheParentAndTheName();
        lookAtWhatIsUnder();
        lookAtWhatIsBelow();
        lookAtWhatItIsBelow();
        lookAtWhatItLeadsTo();
        lookAtWhatLeadsToNothing();

        changedAfterTheLatest();
        changedAfterNone();
        changedOutOfRange();
        changedInOrder();
        changedLeavesOutWhatIsNotThere();
        changedOfAll48();

        stateForOthers();
        stateOfTheSerial();
        stateOfHowMany();
        stateOfAliasesOfNothing();
        stateOfTheGreatestDepth();

        serialAtFirst();
        serialGrowsByOne();
        serialOfWhatWasChanged();
        serialOfRefusedCalls();
        serialOfCallsThatHaveNone();
        serialBeforeTheLast();
        serialThatIsTheLast();
        the512thCall();
        edges.end();
    }

    private static void nothing(EntryTree tree) {
    }

    private static void childOfWhatIsNotThere() {
        edges.part("promise 12, 'NONE if there is none', the parent is not there");
        for (int far : Edges.NO_ENTRIES) {
            edges.answersNone("parent " + far, Edges::stock, t -> t.child(far, 1));
        }
        edges.answersNone("never there", Edges::stock, t -> t.child(9, 1));
        edges.answersNone("removed", Edges::stock, t -> t.child(6, 1));
        edges.answersNone("removed, it had one under it once", t -> {
            t.add(0, 1, NONE);
            t.add(1, 1, NONE);
            t.remove(2);
            t.remove(1);
        }, t -> t.child(1, 1));
    }

    private static void childByANameThatNoneHas() {
        edges.part("promise 12, 'NONE if there is none', no such name there");
        for (int far : Edges.NO_NAMES) {
            edges.answersNone("name " + far, Edges::stock, t -> t.child(0, far));
        }
        edges.answersNone("free", Edges::stock, t -> t.child(0, 50));
        edges.answersNone("elsewhere", Edges::stock, t -> t.child(0, 2));
        edges.answersNone("deeper", Edges::stock, t -> t.child(1, 3));
        edges.answersNone("removed", Edges::stock, t -> t.child(4, 2));
        edges.accepts("moved away", Edges::stock, t -> t.move(3, 0, 50) && t.child(2, 3) == NONE && t.child(0, 50) == 3);
    }

    private static void childByTheLeastAndGreatestName() {
        edges.part("promise 12, names 0 and 99");
        Edges.Steps outermost = t -> {
            t.add(0, 0, NONE);
            t.add(0, 99, NONE);
        };
        edges.answers("0", outermost, t -> t.child(0, 0), 1);
        edges.answers("99", outermost, t -> t.child(0, 99), 2);
        edges.answers("1", outermost, t -> t.child(0, 1), NONE);
        edges.answers("98", outermost, t -> t.child(0, 98), NONE);
        edges.answers("the last entry", Edges::chain, t -> t.child(46, 0), 47);
    }

    private static void childOfAnAlias() {
        edges.part("promise 12, an alias has nothing under it");
        edges.answers("not what is under the one it leads to", Edges::stock, t -> t.child(5, 7), NONE);
        edges.answers("an alias itself is found by its name", Edges::stock, t -> t.child(0, 5), 5);
        edges.answers("an alias of NOTHING too", Edges::stock, t -> t.child(4, 7), 7);
    }

    private static void childThatIsTheRoot() {
        edges.part("promise 12, the root is under none");
        edges.answersNone("child(-1, -1)", Edges::stock, t -> t.child(NONE, NONE));
        edges.answersNone("child(-1, 0)", Edges::stock, t -> t.child(NONE, 0));
        edges.answersNone("child(0, 0)", Edges::stock, t -> t.child(0, 0));
        edges.answersNone("child(0, -1)", Edges::stock, t -> t.child(0, NONE));
    }

    private static void lookAtWhatIsNotThere() {
        edges.part("promise 13, 'NONE if it is not there'");
        for (int i = 0; i < 8; i++) {
            int what = i;
            for (int far : Edges.NO_ENTRIES) {
                edges.answersNone("look(" + far + ", " + what + ")", Edges::stock, t -> t.look(far, what));
            }
            for (int e : new int[] {6, 9, 47}) {
                edges.answersNone("look(" + e + ", " + what + ")", Edges::stock, t -> t.look(e, what));
            }
            edges.answersNone("an alias that was removed, " + what, t -> {
                Edges.stock(t);
                t.remove(5);
            }, t -> t.look(5, what));
        }
    }

    private static void lookForOthers() {
        edges.part("promise 13, 'NONE .. for others'");
        for (int far : Edges.NO_LOOKS) {
            for (int e : new int[] {0, 3, 5, 9}) {
                edges.answersNone("look(" + e + ", " + far + ")", Edges::stock, t -> t.look(e, far));
            }
        }
    }

    private static void looks(String what, Edges.Steps before, int e, int... due) {
        for (int i = 0; i < due.length; i++) {
            int asked = i;
            edges.answers(what + ", look(" + e + ", " + asked + ")", before, t -> t.look(e, asked), due[i]);
        }
    }

    private static void lookAtTheRoot() {
        edges.part("promise 13, 'NONE for the root'");
        looks("alone", ReadEdgesTest::nothing, 0, NONE, NONE, NONE, 0, 0, 0, 0, 0);
        looks("with others", Edges::stock, 0, NONE, NONE, NONE, 3, 7, 0, 0, 0);
        looks("with 47 below", Edges::chain, 0, NONE, NONE, NONE, 1, 47, 0, 0, 0);
        looks("with 47 under it", Edges::full, 0, NONE, NONE, NONE, 47, 47, 0, 0, 0);
    }

    private static void lookAtTheParentAndTheName() {
        edges.part("promise 13, '0: its parent', '1: its name'");
        looks("under the root", Edges::stock, 1, 0, 1, NONE, 1, 2, 1, 11, 1);
        looks("deeper", Edges::stock, 3, 2, 3, NONE, 0, 0, 3, 12, 3);
        looks("an alias", Edges::stock, 5, 0, 5, 4, 0, 0, 1, 5, 4);
        looks("an alias of NOTHING", Edges::stock, 7, 4, 7, NOTHING, 0, 0, 2, 7, NOTHING);
        looks("an alias of itself", Edges::stock, 8, 4, 8, 8, 0, 0, 2, 9, NOTHING);
        looks("the last and deepest", Edges::chain, 47, 46, 0, NONE, 0, 0, 47, 47, 47);
    }

    private static void lookAtWhatIsUnder() {
        edges.part("promise 13, '3: how many are directly under it'");
        edges.answers("aliases count", Edges::stock, t -> t.look(4, 3), 2);
        edges.answers("what is deeper does not", Edges::stock, t -> t.look(1, 3), 1);
        edges.accepts("nor what was removed", Edges::stock, t -> t.remove(7) && t.look(4, 3) == 1);
        edges.answers("nor what is under the one that it leads to", Edges::stock, t -> t.look(5, 3), 0);
        edges.accepts("what moved there", Edges::stock, t -> t.move(3, 4, 0) && t.look(4, 3) == 3 && t.look(2, 3) == 0);
    }

    private static void lookAtWhatIsBelow() {
        edges.part("promise 13, '4: how many are below it'");
        edges.answers("not itself", Edges::stock, t -> t.look(3, 4), 0);
        edges.answers("all of them", Edges::stock, t -> t.look(1, 4), 2);
        edges.answers("not below the one that it leads to", Edges::stock, t -> t.look(5, 4), 0);
        edges.answers("46", Edges::chain, t -> t.look(1, 4), 46);
        edges.answers("one", Edges::chain, t -> t.look(46, 4), 1);
        edges.accepts("not what was removed", Edges::stock, t -> t.remove(3) && t.look(1, 4) == 1);
    }

    private static void lookAtWhatItIsBelow() {
        edges.part("promise 13, '5: how many it is below'");
        edges.answers("the root is below none", Edges::stock, t -> t.look(0, 5), 0);
        edges.answers("below the root alone", Edges::stock, t -> t.look(4, 5), 1);
        edges.answers("below 46", Edges::chain, t -> t.look(46, 5), 46);
        edges.answers("below 47", Edges::chain, t -> t.look(47, 5), 47);
        edges.accepts("no more", Edges::chain, t -> t.move(47, 0, 1) && t.look(47, 5) == 1);
    }

    private static void lookAtWhatItLeadsTo() {
        edges.part("promise 13, '7: what it leads to, itself if it is no alias'");
        edges.answers("no alias", Edges::stock, t -> t.look(3, 7), 3);
        edges.answers("the root", Edges::stock, t -> t.look(0, 7), 0);
        edges.answers("an alias", Edges::stock, t -> t.look(5, 7), 4);
        edges.accepts("an alias of an alias", Edges::stock, t -> t.point(7, 5) && t.look(7, 7) == 4);
        edges.accepts("of its own parent", Edges::stock, t -> t.point(8, 4) && t.look(8, 7) == 4);
        for (int i = 1; i < 48; i++) {
            int e = i;
            edges.answers("over " + e + " aliases", ReadEdgesTest::aliasesInARow, t -> t.look(e, 7), 0);
        }
    }

    /** Every entry but the root is an alias of the one before. */
    private static void aliasesInARow(EntryTree tree) {
        for (int e = 1; e < 48; e++) {
            tree.add(0, e, e - 1);
        }
    }

    private static void lookAtWhatLeadsToNothing() {
        edges.part("terms, '(nothing if it is one of NOTHING, or if that never ends)'; promise 13, 'NOTHING if that is nothing'");
        edges.answers("an alias of NOTHING", Edges::stock, t -> t.look(7, 7), NOTHING);
        edges.answers("an alias of itself", Edges::stock, t -> t.look(8, 7), NOTHING);
        edges.accepts("an alias of an alias of NOTHING", Edges::stock, t -> t.point(5, 7) && t.look(5, 7) == NOTHING);
        edges.accepts("an alias of an alias of itself", Edges::stock, t -> t.point(5, 8) && t.look(5, 7) == NOTHING);
        edges.accepts("two of one another", Edges::stock, t -> t.point(5, 7) && t.point(7, 5)
            && t.look(5, 7) == NOTHING && t.look(7, 7) == NOTHING);
        for (int i = 1; i < 48; i++) {
            int e = i;
            edges.answers("a ring of " + e, ReadEdgesTest::aliasesInARow, t -> t.point(1, e) ? t.look(47, 7) : NONE, NOTHING);
            edges.answers("over " + (47 - e) + " to NOTHING", t -> {
                aliasesInARow(t);
                t.remove(e);
            }, t -> t.look(e == 47 ? 46 : 47, 7), e == 47 ? 0 : NOTHING);
        }
        edges.accepts("out of the ring again", ReadEdgesTest::aliasesInARow,
            t -> t.point(1, 47) && t.look(30, 7) == NOTHING && t.point(29, 0) && t.look(30, 7) == 0);
    }

    private static void changedAfterTheLatest() {
        edges.part("promise 15, 'with a serial above after'");
        edges.answers("the latest", Edges::stock, t -> t.changed(12, 0), 4);
        edges.answers("one alone", Edges::stock, t -> t.changed(12, 1), NONE);
        edges.answersNone("not the same serial", Edges::stock, t -> t.changed(13, 0));
        edges.answersNone("14", Edges::stock, t -> t.changed(14, 0));
        edges.answersNone("far above", Edges::stock, t -> t.changed(LAST, 0));
        edges.answersNone("the greatest number", Edges::stock, t -> t.changed(Integer.MAX_VALUE, 0));
        edges.answers("the latest was a removal", t -> {
            Edges.stock(t);
            t.remove(3);
        }, t -> t.changed(13, 0), NONE);
    }

    private static void changedAfterNone() {
        edges.part("promise 15, 'the root 0 at first'");
        edges.answers("above -1: the root", Edges::stock, t -> t.changed(-1, 0), 0);
        edges.answers("above 0: not the root", Edges::stock, t -> t.changed(0, 0), 2);
        edges.answers("the least number", Edges::stock, t -> t.changed(Integer.MIN_VALUE, 0), 0);
        edges.answers("the least number, the last", Edges::stock, t -> t.changed(Integer.MIN_VALUE, 7), 4);
        edges.answers("in a new object", ReadEdgesTest::nothing, t -> t.changed(-1, 0), 0);
        edges.answers("in a new object, above 0", ReadEdgesTest::nothing, t -> t.changed(0, 0), NONE);
        edges.accepts("the root, put to", Edges::stock, t -> t.put(0, 0, 0, true) && t.changed(13, 0) == 0 && t.changed(-1, 0) == 2);
    }

    private static void changedOutOfRange() {
        edges.part("promise 15, 'NONE if there is none'");
        for (int far : Edges.outside(0, 7)) {
            edges.answersNone("k " + far, Edges::stock, t -> t.changed(-1, far));
            edges.answersNone("k " + far + ", from the least number", Edges::stock, t -> t.changed(Integer.MIN_VALUE, far));
        }
        edges.answersNone("k -1 where there is none", Edges::stock, t -> t.changed(13, -1));
    }

    private static void changedInOrder() {
        edges.part("promise 15, 'by rising serials'");
        int[] due = {0, 2, 5, 7, 8, 1, 3, 4};
        for (int i = 0; i < due.length; i++) {
            int k = i;
            edges.answers("changed(-1, " + k + ")", Edges::stock, t -> t.changed(-1, k), due[k]);
        }
        edges.answers("the last but one", Edges::stock, t -> t.changed(11, 0), 3);
        edges.answers("the last", Edges::stock, t -> t.changed(11, 1), 4);
        edges.accepts("moved", Edges::stock, t -> t.move(2, 1, 2) && t.changed(0, 0) == 5 && t.changed(0, 6) == 2);
        edges.accepts("pointed", Edges::stock, t -> t.point(5, 4) && t.changed(0, 1) == 7 && t.changed(0, 6) == 5);
        edges.accepts("put to", Edges::stock, t -> t.put(2, 0, 0, true) && t.changed(0, 0) == 5 && t.changed(0, 6) == 2);
        edges.accepts("a rule does not count", Edges::stock, t -> t.rule(2, 0, 0, 1) && t.changed(13, 0) == NONE);
    }

    private static void changedLeavesOutWhatIsNotThere() {
        edges.part("promise 15, 'of the entries there'");
        edges.accepts("removed", Edges::stock, t -> t.remove(3) && t.changed(11, 0) == 4 && t.changed(11, 1) == NONE);
        edges.accepts("the number used again", Edges::stock, t -> t.remove(3) && t.add(0, 50, NONE) == 3 && t.changed(13, 0) == 3);
    }

    private static void changedOfAll48() {
        edges.part("promise 15, all 48");
        edges.answers("the last, the root counted", Edges::full, t -> t.changed(-1, 47), 47);
        edges.answersNone("behind it", Edges::full, t -> t.changed(-1, 48));
        edges.answers("the last, above 0", Edges::full, t -> t.changed(0, 46), 47);
        edges.answersNone("behind it, above 0", Edges::full, t -> t.changed(0, 47));
    }

    private static void stateForOthers() {
        edges.part("promise 16, 'NONE for others'");
        for (int far : Edges.NO_STATES) {
            edges.answersNone("state(" + far + ")", Edges::stock, t -> t.state(far));
        }
    }

    private static void stateOfTheSerial() {
        edges.part("promise 16, '0: the serial'");
        edges.answers("new", ReadEdgesTest::nothing, t -> t.state(0), 0);
        edges.answers("stock", Edges::stock, t -> t.state(0), 13);
    }

    private static void stateOfHowMany() {
        edges.part("promise 16, '1: how many entries there are'");
        edges.answers("one", ReadEdgesTest::nothing, t -> t.state(1), 1);
        edges.answers("with a gap", Edges::stock, t -> t.state(1), 8);
        edges.answers("48", Edges::full, t -> t.state(1), 48);
        edges.accepts("one again", t -> t.add(0, 1, NONE), t -> t.remove(1) && t.state(1) == 1);
    }

    private static void stateOfAliasesOfNothing() {
        edges.part("promise 16, '2: how many aliases of NOTHING'");
        edges.answers("none", ReadEdgesTest::nothing, t -> t.state(2), 0);
        edges.answers("one, and not the alias of itself", Edges::stock, t -> t.state(2), 1);
        edges.accepts("not an alias of one", Edges::stock, t -> t.point(5, 7) && t.state(2) == 1);
        edges.accepts("it is removed", Edges::stock, t -> t.remove(7) && t.state(2) == 0);
        edges.accepts("it points again", Edges::stock, t -> t.point(7, 4) && t.state(2) == 0);
        edges.answers("46", t -> {
            t.add(0, 1, NONE);
            for (int e = 2; e < 48; e++) {
                t.add(0, e, 1);
            }
            t.remove(1);
        }, t -> t.state(2), 46);
    }

    private static void stateOfTheGreatestDepth() {
        edges.part("promise 16, '3: the greatest number of entries that one is below'");
        edges.answers("the root alone", ReadEdgesTest::nothing, t -> t.state(3), 0);
        edges.answers("one under it", t -> t.add(0, 1, NONE), t -> t.state(3), 1);
        edges.answers("many directly under it", Edges::full, t -> t.state(3), 1);
        edges.answers("47", Edges::chain, t -> t.state(3), 47);
        edges.accepts("removed", Edges::chain, t -> t.remove(47) && t.state(3) == 46);
        edges.accepts("moved", Edges::chain, t -> t.move(24, 0, 1) && t.state(3) == 24);
        edges.accepts("an alias is below, too", Edges::stock, t -> t.add(3, 1, 0) == 6 && t.state(3) == 4);
    }

    private static void serialAtFirst() {
        edges.part("terms, 'the SERIAL, 0 at first'");
        edges.answers("state(0)", ReadEdgesTest::nothing, t -> t.state(0), 0);
        edges.answers("look(0, 6)", ReadEdgesTest::nothing, t -> t.look(0, 6), 0);
    }

    private static void serialGrowsByOne() {
        edges.part("terms, 'grows by one by each of add, move, point, put and remove'");
        edges.accepts("add", Edges::stock, t -> t.add(0, 50, NONE) == 6 && t.state(0) == 14);
        edges.accepts("add an alias", Edges::stock, t -> t.add(0, 50, 0) == 6 && t.state(0) == 14);
        edges.accepts("move", Edges::stock, t -> t.move(1, 4, 50) && t.state(0) == 14);
        edges.accepts("point", Edges::stock, t -> t.point(5, 1) && t.state(0) == 14);
        edges.accepts("put on", Edges::stock, t -> t.put(2, 3, 3, true) && t.state(0) == 14);
        edges.accepts("put off", Edges::stock, t -> t.put(4, 2, 7, false) && t.state(0) == 14);
        edges.accepts("remove", Edges::stock, t -> t.remove(3) && t.state(0) == 14);
        edges.accepts("remove what has aliases", Edges::stock, t -> t.point(5, 3) && t.remove(3) && t.state(0) == 15);
    }

    private static void serialOfWhatWasChanged() {
        edges.part("terms, 'has this as its own serial'");
        edges.accepts("added", Edges::stock, t -> t.add(4, 50, 1) == 6 && t.look(6, 6) == 14 && t.look(4, 6) == 13 && t.look(1, 6) == 11);
        edges.accepts("moved", Edges::stock, t -> t.move(1, 4, 50) && t.look(1, 6) == 14 && t.look(4, 6) == 13 && t.look(2, 6) == 2);
        edges.accepts("pointed", Edges::stock, t -> t.point(5, 1) && t.look(5, 6) == 14 && t.look(1, 6) == 11 && t.look(4, 6) == 13);
        edges.accepts("put to", Edges::stock, t -> t.put(2, 3, 3, true) && t.look(2, 6) == 14 && t.look(1, 6) == 11);
        edges.accepts("put to, off", Edges::stock, t -> t.put(4, 2, 7, false) && t.look(4, 6) == 14);
        edges.accepts("the root, put to", Edges::stock, t -> t.put(0, 3, 3, true) && t.look(0, 6) == 14);
        edges.accepts("removed: none has it", Edges::stock, t -> t.remove(3) && t.look(2, 6) == 2 && t.changed(13, 0) == NONE);
    }

    private static void serialOfRefusedCalls() {
        edges.part("terms, 'that is not refused'");
        edges.accepts("add", Edges::stock, t -> t.add(0, 1, NONE) == NONE && t.state(0) == 13);
        edges.accepts("move", Edges::stock, t -> !t.move(1, 2, 50) && t.state(0) == 13);
        edges.accepts("point", Edges::stock, t -> !t.point(1, 2) && t.state(0) == 13);
        edges.accepts("put", Edges::stock, t -> !t.put(1, 0, 0, true) && t.state(0) == 13);
        edges.accepts("remove", Edges::stock, t -> !t.remove(1) && t.state(0) == 13);
    }

    private static void serialOfCallsThatHaveNone() {
        edges.part("terms, 'of add, move, point, put and remove', and of no other");
        edges.accepts("rule", Edges::stock, t -> t.rule(1, 0, 0, 0) && t.state(0) == 13 && t.look(1, 6) == 11);
        edges.accepts("token", Edges::stock, t -> t.token(0, 0, 0) == 3 && t.state(0) == 13);
        edges.accepts("wipe", Edges::stock, t -> t.wipe() == 2 && t.state(0) == 13);
        edges.accepts("search", Edges::stock, t -> t.search(0, 0, 0, 0) == 1 && t.state(0) == 13);
        edges.changesNothing("found", Edges::stock, t -> t.found(0));
        edges.changesNothing("child", Edges::stock, t -> t.child(0, 1));
        edges.changesNothing("values", Edges::stock, t -> t.values(1, 0, 0));
        edges.changesNothing("changed", Edges::stock, t -> t.changed(0, 0));
        for (int i = 0; i < 8; i++) {
            int what = i;
            edges.changesNothing("look " + what, Edges::stock, t -> t.look(5, what));
            edges.changesNothing("state " + what, Edges::stock, t -> t.state(what));
        }
    }

    private static void nearTheEnd(EntryTree tree) {
        Edges.stock(tree);
        Edges.setSerial(tree, LAST - 1);
    }

    private static void atTheEnd(EntryTree tree) {
        Edges.stock(tree);
        Edges.setSerial(tree, LAST);
    }

    private static void serialBeforeTheLast() {
        edges.part("terms, the serial 999999999: none is refused yet");
        edges.accepts("add", ReadEdgesTest::nearTheEnd, t -> t.add(0, 50, NONE) == 6 && t.look(6, 6) == LAST && t.state(0) == LAST);
        edges.accepts("remove", ReadEdgesTest::nearTheEnd, t -> t.remove(3) && t.state(0) == LAST);
        edges.accepts("move", ReadEdgesTest::nearTheEnd, t -> t.move(3, 4, 50) && t.look(3, 6) == LAST && t.state(0) == LAST);
        edges.accepts("point", ReadEdgesTest::nearTheEnd, t -> t.point(5, 1) && t.look(5, 6) == LAST && t.state(0) == LAST);
        edges.accepts("put on", ReadEdgesTest::nearTheEnd, t -> t.put(1, 1, 1, true) && t.look(1, 6) == LAST && t.state(0) == LAST);
        edges.accepts("put off", ReadEdgesTest::nearTheEnd, t -> t.put(1, 0, 0, false) && t.look(1, 6) == LAST && t.state(0) == LAST);
        edges.accepts("changed", ReadEdgesTest::nearTheEnd, t -> t.point(5, 1) && t.changed(LAST - 1, 0) == 5 && t.changed(LAST, 0) == NONE);
        edges.accepts("one call comes to the last, the next is refused", ReadEdgesTest::nearTheEnd,
            t -> t.point(5, 1) && !t.point(5, 4) && t.look(5, 2) == 1);
    }

    private static void serialThatIsTheLast() {
        edges.part("terms, 'when it is 1000000000 all of these are refused'");
        edges.answersNone("add", ReadEdgesTest::atTheEnd, t -> t.add(0, 50, NONE));
        edges.answersNone("add an alias", ReadEdgesTest::atTheEnd, t -> t.add(0, 50, 0));
        edges.refuses("remove", ReadEdgesTest::atTheEnd, t -> t.remove(3));
        edges.refuses("move", ReadEdgesTest::atTheEnd, t -> t.move(3, 4, 50));
        edges.refuses("point", ReadEdgesTest::atTheEnd, t -> t.point(5, 1));
        edges.refuses("put on", ReadEdgesTest::atTheEnd, t -> t.put(1, 1, 1, true));
        edges.refuses("put off", ReadEdgesTest::atTheEnd, t -> t.put(1, 0, 0, false));
        edges.accepts("rule is none of these", ReadEdgesTest::atTheEnd, t -> t.rule(1, 0, 0, 0) && t.values(1, 0, 0) == Edges.HIDDEN);
        edges.accepts("token is none of these", ReadEdgesTest::atTheEnd, t -> t.token(0, 0, 0) == 3);
        edges.accepts("wipe is none of these", ReadEdgesTest::atTheEnd, t -> t.wipe() == 2);
        edges.accepts("search is none of these", ReadEdgesTest::atTheEnd, t -> t.search(1, 2, 0, 0) == 3 && t.found(2) == 3);
    }

    private static void the512thCall() {
        edges.part("'at most 512 calls': the 512th still counts");
        edges.answers("state(0) behind 511 changes", t -> {
            for (int i = 0; i < 511; i++) {
                t.put(0, i % 6, i % 16, i / 48 % 2 == 0);
            }
        }, t -> t.state(0), 511);
    }
}
