/** The boundary cases that promises 6, 7, 14 and 17 name, a method for each: put, rule, values. */
public final class ValuesEdgesTest {
    private static final int NONE = Edges.NONE, NOTHING = Edges.NOTHING, HIDDEN = Edges.HIDDEN;
    private static final Edges edges = new Edges();

    public static void main(String[] args) {
        putWhatIsSo();
        putToWhatIsNotThere();
        putToAnAlias();
        putAnAttributeOutOfRange();
        putAValueOutOfRange();
        putTheLeastAndGreatest();
        putToTheRootAndTheLast();
        putOneAlone();

        ruleOfWhatIsNotThere();
        ruleForAGroupOutOfRange();
        ruleForAnAttributeOutOfRange();
        ruleThatSaysSomethingElse();
        ruleOfTheLeastAndGreatest();
        ruleThatSaysNothingAgain();
        ruleOfAnAlias();
        ruleIsSoAlready();

        readWhenNoneSaysAnything();
        readByTheFirstOnTheWayUp();
        readByItsOwnRule();
        readByTheRootFromTheDeepest();
        readAfterAMove();

        valuesOfNoSuchEntry();
        valuesOfNoSuchAttribute();
        valuesForNoSuchGroup();
        valuesEmptyAndFull();
        valuesHidden();
        noneIsTestedBeforeHidden();
        lookAtAnAliasOfNothing();
        valuesOfAnAlias();
        edges.end();
    }

    private static void nothing(EntryTree tree) {
    }

    private static void putWhatIsSo() {
        edges.part("promise 6, 'if it was so'");
        edges.refuses("there", Edges::stock, t -> t.put(1, 0, 0, true));
        edges.refuses("there, the greatest", Edges::stock, t -> t.put(3, 5, 15, true));
        edges.refuses("not there", Edges::stock, t -> t.put(1, 0, 1, false));
        edges.refuses("not there, the greatest", Edges::stock, t -> t.put(1, 5, 15, false));
        edges.refuses("not there any more", t -> {
            Edges.stock(t);
            t.put(1, 0, 0, false);
        }, t -> t.put(1, 0, 0, false));
        edges.refuses("not there, of a number used again", t -> {
            t.add(0, 1, NONE);
            t.put(1, 0, 0, true);
            t.remove(1);
            t.add(0, 1, NONE);
        }, t -> t.put(1, 0, 0, false));
        edges.accepts("not the serial either", Edges::stock,
            t -> !t.put(1, 0, 0, true) && !t.put(1, 0, 1, false) && t.state(0) == 13 && t.look(1, 6) == 11);
        edges.accepts("it was otherwise", Edges::stock, t -> t.put(1, 0, 0, false) && t.put(1, 0, 0, true));
        edges.accepts("hidden values too", Edges::stock, t -> t.put(2, 0, 3, true) && !t.put(2, 0, 3, true) && t.values(2, 0, 1) == 8);
    }

    private static void putToWhatIsNotThere() {
        edges.part("promise 6, 'the entry is not there'");
        for (int far : Edges.NO_ENTRIES) {
            edges.refuses("e " + far + ", on", Edges::stock, t -> t.put(far, 0, 0, true));
            edges.refuses("e " + far + ", off", Edges::stock, t -> t.put(far, 0, 0, false));
        }
        edges.refuses("never there", Edges::stock, t -> t.put(9, 0, 0, true));
        edges.refuses("the last number", Edges::stock, t -> t.put(47, 5, 15, true));
        edges.refuses("removed", Edges::stock, t -> t.put(6, 0, 0, true));
        edges.accepts("nothing waits for the number", Edges::stock,
            t -> !t.put(6, 0, 0, true) && t.add(0, 50, NONE) == 6 && t.values(6, 0, 0) == 0);
    }

    private static void putToAnAlias() {
        edges.part("promise 6, 'or an alias'");
        for (int alias : new int[] {5, 7, 8}) {
            edges.refuses(alias + ", on", Edges::stock, t -> t.put(alias, 0, 0, true));
            edges.refuses(alias + ", off", Edges::stock, t -> t.put(alias, 2, 7, false));
        }
    }

    private static void putAnAttributeOutOfRange() {
        edges.part("promise 6, 'a .. is out of range'");
        for (int far : Edges.NO_ATTRIBUTES) {
            edges.refuses("a " + far + ", on", Edges::stock, t -> t.put(1, far, 3, true));
            edges.refuses("a " + far + ", off", Edges::stock, t -> t.put(1, far, 0, false));
        }
        edges.refuses("behind the last entry", Edges::full, t -> t.put(47, 6, 0, true));
        edges.refuses("before the root", Edges::full, t -> t.put(0, -1, 0, true));
        // Attribute 0 of 2 and 5 of 3 stand beside these, and have a value.
        edges.refuses("what stands behind", t -> {
            Edges.stock(t);
            t.put(2, 0, 3, true);
        }, t -> t.put(1, 6, 3, false));
        edges.refuses("what stands before", Edges::stock, t -> t.put(4, -1, 15, false));
    }

    private static void putAValueOutOfRange() {
        edges.part("promise 6, 'v is out of range'");
        for (int far : Edges.NO_VALUES) {
            edges.refuses("v " + far + ", on", Edges::stock, t -> t.put(1, 1, far, true));
            edges.refuses("v " + far + ", off", Edges::stock, t -> t.put(1, 0, far, false));
        }
        edges.refuses("both", Edges::stock, t -> t.put(1, 6, 16, true));
    }

    private static void putTheLeastAndGreatest() {
        edges.part("terms, 'attributes 0..5' and 'values 0..15'");
        for (int a : new int[] {0, 5}) {
            for (int v : new int[] {0, 15}) {
                edges.accepts("a " + a + ", v " + v, ValuesEdgesTest::nothing,
                    t -> t.put(0, a, v, true) && t.values(0, a, 0) == 1 << v && t.put(0, a, v, false) && t.values(0, a, 0) == 0);
            }
        }
    }

    private static void putToTheRootAndTheLast() {
        edges.part("promise 6, the first and the last entry");
        edges.accepts("0", Edges::full, t -> t.put(0, 5, 15, true) && t.values(0, 5, 3) == 32768 && t.values(1, 0, 3) == 0);
        edges.accepts("47", Edges::full, t -> t.put(47, 5, 15, true) && t.values(47, 5, 3) == 32768 && t.values(46, 5, 3) == 0);
    }

    private static void putOneAlone() {
        edges.part("promise 6, 'a value of an attribute'");
        for (int i = 0; i < 6; i++) {
            int a = i;
            edges.answers("no other value", Edges::stock, t -> t.put(1, a, 9, true) ? t.values(1, a, 1) : HIDDEN, a == 0 ? 513 : 512);
            edges.answers("no other attribute", Edges::stock, t -> t.put(1, a, 9, true) ? t.values(1, (a + 1) % 6, 1) : HIDDEN, a == 5 ? 1 : 0);
        }
    }

    private static void ruleOfWhatIsNotThere() {
        edges.part("promise 7, 'or the entry is not there'");
        for (int far : Edges.NO_ENTRIES) {
            edges.refuses("e " + far, Edges::stock, t -> t.rule(far, 0, 0, 0));
        }
        edges.refuses("never there", Edges::stock, t -> t.rule(9, 0, 0, 0));
        edges.refuses("the last number", Edges::stock, t -> t.rule(47, 3, 5, 0));
        edges.refuses("removed", Edges::stock, t -> t.rule(6, 0, 0, 0));
        edges.accepts("nothing waits for the number", Edges::stock,
            t -> !t.rule(6, 0, 0, 0) && t.add(0, 50, NONE) == 6 && t.values(6, 0, 0) == 0);
    }

    private static void ruleForAGroupOutOfRange() {
        edges.part("promise 7, 'if one is not as said', the group");
        for (int far : Edges.NO_GROUPS) {
            edges.refuses("group " + far, Edges::stock, t -> t.rule(1, far, 0, 0));
        }
        edges.refuses("behind the last entry", Edges::full, t -> t.rule(47, 4, 5, 0));
        edges.refuses("before the root", Edges::full, t -> t.rule(0, -1, 0, 0));
    }

    private static void ruleForAnAttributeOutOfRange() {
        edges.part("promise 7, 'if one is not as said', the attribute");
        for (int far : Edges.NO_ATTRIBUTES) {
            edges.refuses("a " + far, Edges::stock, t -> t.rule(1, 0, far, 0));
        }
        edges.refuses("behind the last entry", Edges::full, t -> t.rule(47, 3, 6, 0));
        edges.refuses("before the root", Edges::full, t -> t.rule(0, 0, -1, 0));
    }

    private static void ruleThatSaysSomethingElse() {
        edges.part("promise 7, '1 YES, 0 NO, -1 nothing', and no other");
        for (int far : Edges.NO_SAYINGS) {
            edges.refuses("says " + far, Edges::stock, t -> t.rule(1, 0, 0, far));
            edges.refuses("says " + far + " where it says NO", Edges::stock, t -> t.rule(2, 0, 0, far));
        }
    }

    private static void ruleOfTheLeastAndGreatest() {
        edges.part("terms, 'groups 0..3', 'attributes 0..5'");
        for (int group : new int[] {0, 3}) {
            for (int a : new int[] {0, 5}) {
                for (int e : new int[] {0, 47}) {
                    edges.accepts("e " + e + ", group " + group + ", a " + a, Edges::chain,
                        t -> t.rule(e, group, a, 0) && t.values(e, a, group) == HIDDEN);
                    edges.accepts("no other group", Edges::chain,
                        t -> t.rule(e, group, a, 0) && t.values(47, a, group == 0 ? 1 : 2) == 0 && t.values(47, a, 3 - group) == 0);
                    edges.accepts("no other attribute", Edges::chain,
                        t -> t.rule(e, group, a, 0) && t.values(47, a == 0 ? 1 : 4, group) == 0 && t.values(47, 5 - a, group) == 0);
                    edges.accepts("none above", Edges::chain,
                        t -> t.rule(e, group, a, 0) && (e == 0 || t.values(e - 1, a, group) == 0));
                }
            }
        }
    }

    private static void ruleThatSaysNothingAgain() {
        edges.part("promise 7, '-1 nothing'");
        edges.accepts("after NO", Edges::stock, t -> t.rule(2, 0, 0, -1) && t.values(2, 0, 0) == 0);
        edges.accepts("after YES", Edges::stock, t -> t.rule(3, 0, 0, -1) && t.values(3, 0, 0) == HIDDEN);
        edges.accepts("of the root", Edges::stock, t -> t.rule(0, 3, 5, -1) && t.values(3, 5, 3) == 32768);
    }

    private static void ruleOfAnAlias() {
        edges.part("promise 7, an alias is an entry");
        for (int alias : new int[] {5, 7, 8}) {
            edges.accepts("" + alias, Edges::stock, t -> t.rule(alias, 0, 0, 0) && t.values(alias, 0, 0) == HIDDEN);
        }
        edges.accepts("it says nothing of what it leads to", Edges::stock, t -> t.rule(5, 0, 2, 0) && t.values(4, 2, 0) == 128);
    }

    private static void ruleIsSoAlready() {
        edges.part("promise 7, what it says already");
        edges.accepts("NO", Edges::stock, t -> t.rule(2, 0, 0, 0) && t.values(2, 0, 0) == HIDDEN);
        edges.accepts("YES", Edges::stock, t -> t.rule(3, 0, 0, 1) && t.values(3, 0, 0) == 0);
        edges.accepts("nothing", Edges::stock, t -> t.rule(1, 0, 0, -1) && t.values(1, 0, 0) == 1);
        edges.accepts("no serial", Edges::stock, t -> t.rule(1, 0, 0, 0) && t.state(0) == 13 && t.look(1, 6) == 11);
    }

    private static void readWhenNoneSaysAnything() {
        edges.part("terms, 'or none says anything'");
        edges.answers("of the root", ValuesEdgesTest::nothing, t -> t.values(0, 0, 0), 0);
        edges.answers("of the deepest", Edges::chain, t -> t.values(47, 5, 3), 0);
        edges.answers("one beside it says NO", Edges::stock, t -> t.rule(1, 1, 1, 0) ? t.values(4, 1, 1) : NOTHING, 0);
        edges.answers("one below it says NO", Edges::stock, t -> t.values(1, 0, 0), 1);
    }

    private static void readByTheFirstOnTheWayUp() {
        edges.part("terms, 'the first entry that says something on its way up'");
        edges.accepts("NO below YES", Edges::stock, t -> t.rule(1, 1, 5, 1) && t.rule(2, 1, 5, 0) && t.values(3, 5, 1) == HIDDEN);
        edges.accepts("YES below NO", Edges::stock, t -> t.rule(1, 1, 5, 0) && t.rule(2, 1, 5, 1) && t.values(3, 5, 1) == 32768);
        edges.accepts("what says nothing is passed by", Edges::stock, t -> t.rule(1, 1, 5, 0) && t.values(3, 5, 1) == HIDDEN);
        edges.accepts("another group's rule is passed by", Edges::stock, t -> t.rule(1, 1, 5, 0) && t.rule(2, 2, 5, 1) && t.values(3, 5, 1) == HIDDEN);
        edges.accepts("another attribute's rule is passed by", Edges::stock, t -> t.rule(1, 1, 5, 0) && t.rule(2, 1, 4, 1) && t.values(3, 5, 1) == HIDDEN);
    }

    private static void readByItsOwnRule() {
        edges.part("terms, 'from itself on'");
        edges.accepts("NO", Edges::stock, t -> t.rule(2, 1, 5, 1) && t.rule(3, 1, 5, 0) && t.values(3, 5, 1) == HIDDEN);
        edges.accepts("YES", Edges::stock, t -> t.rule(2, 1, 5, 0) && t.rule(3, 1, 5, 1) && t.values(3, 5, 1) == 32768);
        edges.accepts("of the root", Edges::stock, t -> t.values(0, 5, 3) == HIDDEN && t.rule(0, 3, 5, 1) && t.values(0, 5, 3) == 0);
    }

    private static void readByTheRootFromTheDeepest() {
        edges.part("terms, 'on its way up' to the root, 47 up");
        edges.accepts("NO", Edges::chain, t -> t.rule(0, 0, 0, 0) && t.values(47, 0, 0) == HIDDEN);
        edges.accepts("YES, in a NO of none", Edges::chain, t -> t.rule(0, 0, 0, 1) && t.values(47, 0, 0) == 0);
        edges.accepts("YES below it", Edges::chain, t -> t.rule(0, 0, 0, 0) && t.rule(1, 0, 0, 1) && t.values(47, 0, 0) == 0);
    }

    private static void readAfterAMove() {
        edges.part("terms, 'its way up', moved");
        edges.accepts("out of NO", Edges::stock, t -> t.rule(3, 0, 0, -1) && t.move(3, 0, 50) && t.values(3, 0, 0) == 0);
        edges.accepts("into NO", Edges::stock, t -> t.move(4, 2, 50) && t.values(4, 0, 0) == HIDDEN && t.values(7, 0, 0) == HIDDEN);
        edges.accepts("its own rule goes with it", Edges::stock, t -> t.move(2, 0, 50) && t.values(2, 0, 0) == HIDDEN);
    }

    private static void valuesOfNoSuchEntry() {
        edges.part("promise 14, 'NONE if there is no such entry'");
        for (int far : Edges.NO_ENTRIES) {
            edges.answersNone("e " + far, Edges::stock, t -> t.values(far, 0, 0));
        }
        edges.answersNone("never there", Edges::stock, t -> t.values(9, 0, 0));
        edges.answersNone("the last number", Edges::stock, t -> t.values(47, 5, 3));
        edges.answersNone("removed", Edges::stock, t -> t.values(6, 0, 0));
    }

    private static void valuesOfNoSuchAttribute() {
        edges.part("promise 14, 'NONE if there is no such .. attribute'");
        for (int far : Edges.NO_ATTRIBUTES) {
            edges.answersNone("a " + far, Edges::stock, t -> t.values(1, far, 0));
        }
        edges.answersNone("behind the last entry", Edges::full, t -> t.values(47, 6, 0));
        edges.answersNone("before the root", Edges::full, t -> t.values(0, -1, 0));
    }

    private static void valuesForNoSuchGroup() {
        edges.part("promise 14, 'NONE if there is no such .. group'");
        for (int far : Edges.NO_GROUPS) {
            edges.answersNone("group " + far, Edges::stock, t -> t.values(1, 0, far));
        }
        edges.answersNone("behind the last entry", Edges::full, t -> t.values(47, 5, 4));
        edges.answersNone("before the root", Edges::full, t -> t.values(0, 0, -1));
    }

    private static void valuesEmptyAndFull() {
        edges.part("promise 14, 'the sum of 2^v for the values'");
        edges.answers("none", Edges::stock, t -> t.values(1, 1, 0), 0);
        edges.answers("0 alone", Edges::stock, t -> t.values(1, 0, 0), 1);
        edges.answers("15 alone", Edges::stock, t -> t.values(3, 5, 0), 32768);
        edges.answers("all", t -> {
            for (int v = 0; v < 16; v++) {
                t.put(0, 0, v, true);
            }
        }, t -> t.values(0, 0, 0), 65535);
        edges.answers("all but the outermost", t -> {
            for (int v = 1; v < 15; v++) {
                t.put(0, 0, v, true);
            }
        }, t -> t.values(0, 0, 0), 32766);
        edges.answers("none again", t -> {
            t.put(0, 0, 15, true);
            t.put(0, 0, 15, false);
        }, t -> t.values(0, 0, 0), 0);
    }

    private static void valuesHidden() {
        edges.part("promise 14, 'HIDDEN if the group may not read it there'");
        edges.answers("with a value", Edges::stock, t -> t.values(3, 5, 3), HIDDEN);
        edges.answers("with none", Edges::stock, t -> t.values(2, 0, 0), HIDDEN);
        edges.answers("another group", Edges::stock, t -> t.values(3, 5, 2), 32768);
        edges.answers("another attribute", Edges::stock, t -> t.values(2, 1, 0), 0);
        edges.answers("above", Edges::stock, t -> t.values(1, 0, 0), 1);
    }

    private static void noneIsTestedBeforeHidden() {
        edges.part("promise 17, 'NONE is tested before HIDDEN'");
        Edges.Steps allHidden = t -> {
            Edges.stock(t);
            for (int i = 0; i < 24; i++) {
                for (int e : new int[] {0, 2, 3}) {
                    t.rule(e, i / 6, i % 6, 0);
                }
            }
        };
        edges.answers("hidden", allHidden, t -> t.values(1, 0, 0), HIDDEN);
        for (int far : Edges.NO_ENTRIES) {
            edges.answers("e " + far, allHidden, t -> t.values(far, 0, 0), NONE);
        }
        for (int far : Edges.NO_ATTRIBUTES) {
            edges.answers("a " + far, allHidden, t -> t.values(2, far, 0), NONE);
        }
        for (int far : Edges.NO_GROUPS) {
            edges.answers("group " + far, allHidden, t -> t.values(2, 0, far), NONE);
        }
        edges.answers("never there", allHidden, t -> t.values(9, 0, 0), NONE);
        edges.answers("removed", allHidden, t -> t.values(6, 0, 0), NONE);
        edges.answers("removed, with a NO of its own", t -> {
            allHidden.on(t);
            t.remove(3);
        }, t -> t.values(3, 0, 0), NONE);
    }

    private static void lookAtAnAliasOfNothing() {
        edges.part("promise 17, 'look with what 2 answers NOTHING for an alias of NOTHING'");
        edges.answers("an alias of NOTHING", Edges::stock, t -> t.look(7, 2), NOTHING);
        edges.answers("an alias of itself is one of an entry", Edges::stock, t -> t.look(8, 2), 8);
        edges.accepts("an alias of an alias of NOTHING is one of an entry", Edges::stock, t -> t.point(5, 7) && t.look(5, 2) == 7);
        edges.answers("no alias", Edges::stock, t -> t.look(4, 2), NONE);
        edges.accepts("pointed again", Edges::stock, t -> t.point(7, 1) && t.look(7, 2) == 1);
    }

    private static void valuesOfAnAlias() {
        edges.part("promise 17, 'values of an alias are 0 (if the group may read them)'");
        for (int alias : new int[] {5, 7, 8}) {
            for (int i = 0; i < 6; i++) {
                int a = i;
                edges.answers("of " + alias, Edges::stock, t -> t.values(alias, a, 0), 0);
            }
            edges.answers("hidden by the root, " + alias, Edges::stock, t -> t.values(alias, 5, 3), HIDDEN);
            edges.accepts("hidden by itself, " + alias, Edges::stock, t -> t.rule(alias, 2, 2, 0) && t.values(alias, 2, 2) == HIDDEN);
        }
        edges.accepts("where it is, not where it leads", Edges::stock,
            t -> t.rule(4, 2, 2, 0) && t.values(5, 2, 2) == 0 && t.values(4, 2, 2) == HIDDEN);
        edges.accepts("of a number that had values", Edges::stock,
            t -> t.remove(3) && t.add(0, 50, 4) == 3 && t.values(3, 5, 0) == 0);
    }
}
