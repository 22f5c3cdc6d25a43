import java.util.Arrays;

/** The boundary cases that promises 10 and 11 name, a method for each: search and found. */
public final class SearchEdgesTest {
    private static final int NONE = Edges.NONE;
    private static final int HAS = Edges.HAS, NOT = Edges.NOT, IN = Edges.IN, TO = Edges.TO;
    private static final Edges edges = new Edges();

    public static void main(String[] args) {
        baseNotThere();
        scopeOutOfRange();
        modeOutOfRange();
        groupOutOfRange();
        baseThatLeadsToNothing();
        baseThatLeadsToNothingWithoutTo();
        theLeastAndGreatestOfAll();
        searchThatFindsNone();
        searchThatFindsAll48();
        searchChangesOnlyWhatIsFound();

        scopeOfTheBaseAlone();
        scopeOfWhatIsDirectlyUnder();
        scopeOfItAndAllBelow();
        baseThatIsAnAlias();
        baseThatIsNoAliasWithTo();
        aliasesAmongThemWithoutIn();
        aliasesAmongThem();
        aliasesOfAliasesAmongThem();
        aliasesInWhatAnAliasBrings();
        whatLeadsToNothingIsLeftOut();
        eachEntryCountsOnce();
        aChainOfSubtrees();
        foundByNumbers();

        foundBeforeAnySearch();
        foundOutOfRange();
        foundFirstAndLast();
        foundAfterARefusedSearch();
        foundAfterALaterSearch();
        foundThatIsNotThereAnyMore();
        edges.end();
    }

    private static void nothing(EntryTree tree) {
    }

    private static void baseNotThere() {
        edges.part("promise 10, 'if base .. is not as said'");
        for (int far : Edges.NO_ENTRIES) {
            for (int mode = 0; mode < 4; mode++) {
                int asked = mode;
                edges.findsNothing("base " + far + ", mode " + mode, Edges::stock, t -> t.search(far, 2, asked, 0));
            }
        }
        for (int base : new int[] {6, 9, 47}) {
            for (int mode = 0; mode < 4; mode++) {
                int asked = mode;
                edges.findsNothing("base " + base + ", mode " + mode, Edges::stock, t -> t.search(base, 0, asked, 0));
            }
        }
    }

    private static void scopeOutOfRange() {
        edges.part("promise 10, 'if .. scope .. is not as said'");
        for (int far : Edges.NO_SCOPES) {
            edges.findsNothing("scope " + far, Edges::stock, t -> t.search(0, far, 0, 0));
        }
    }

    private static void modeOutOfRange() {
        edges.part("promise 10, 'if .. mode .. is not as said'");
        for (int far : Edges.NO_MODES) {
            edges.findsNothing("mode " + far, Edges::stock, t -> t.search(0, 2, far, 0));
        }
    }

    private static void groupOutOfRange() {
        edges.part("promise 10, 'if .. group is not as said'");
        for (int far : Edges.NO_GROUPS) {
            edges.findsNothing("group " + far, Edges::stock, t -> t.search(0, 2, 0, far));
        }
    }

    /** 1 an alias of NOTHING, 2 of 1, 3 of itself, 4 and 5 of one another, 6 of 5, 7 of the root. */
    private static void leadingNowhere(EntryTree tree) {
        tree.add(0, 1, NONE);
        tree.add(0, 2, 1);
        tree.add(0, 3, 2);
        tree.remove(1);
        tree.add(0, 4, 3);
        tree.point(1, 1);
        tree.add(0, 5, 0);
        tree.add(0, 6, 4);
        tree.point(4, 5);
        tree.add(0, 7, 5);
        tree.add(0, 8, 0);
        tree.token(NOT, 0, 0);
        tree.token(HAS, 4, 0);
        tree.search(0, 2, 0, 0);
    }

    private static final int[] NOWHERE = {1, 2, 3, 4, 5, 6};

    private static void baseThatLeadsToNothing() {
        edges.part("promise 10, 'or with TO the base leads to nothing'");
        for (int base : NOWHERE) {
            for (int i = 0; i < 6; i++) {
                int scope = i % 3, mode = i < 3 ? TO : TO + IN;
                edges.findsNothing("search(" + base + ", " + scope + ", " + mode + ", 0)", SearchEdgesTest::leadingNowhere,
                    t -> t.search(base, scope, mode, 0));
            }
        }
        edges.findsNothing("a ring of 47", t -> {
            for (int e = 1; e < 48; e++) {
                t.add(0, e, e - 1);
            }
            t.point(1, 47);
            t.token(HAS, 0, 0);
        }, t -> t.search(30, 0, TO, 0));
    }

    private static void baseThatLeadsToNothingWithoutTo() {
        edges.part("promise 10, a base that leads to nothing, without TO");
        for (int base : NOWHERE) {
            for (int mode = 0; mode <= IN; mode++) {
                searched(SearchEdgesTest::leadingNowhere, base, 0, mode, base);
                searched(SearchEdgesTest::leadingNowhere, base, 1, mode);
                searched(SearchEdgesTest::leadingNowhere, base, 2, mode, base);
            }
        }
    }

    private static void theLeastAndGreatestOfAll() {
        edges.part("promise 10, what is as said");
        Edges.Steps filter = t -> {
            Edges.full(t);
            t.token(NOT, 0, 0);
            t.token(HAS, 5, 0);
        };
        edges.answers("the least of all", filter, t -> t.search(0, 0, 0, 0), 1);
        edges.answers("the greatest of all", filter, t -> t.search(47, 2, 3, 3), 1);
        edges.answers("base 47", filter, t -> t.search(47, 0, 0, 0) + t.found(0), 48);
    }

    private static void searchThatFindsNone() {
        edges.part("promise 10, none found is 0, not NONE");
        edges.answers("no entry is so", t -> t.token(HAS, 0, 0), t -> t.search(0, 2, 0, 0), 0);
        edges.answers("nothing under the base", t -> Edges.filter(t, NOT, 0, 0, HAS, 0, 0), t -> t.search(0, 1, 0, 0), 0);
        edges.answers("found(0) then", t -> {
            Edges.stock(t);
            Edges.filter(t, HAS, 4, 0);
            t.search(0, 2, 0, 0);
        }, t -> t.found(0), NONE);
    }

    private static void searchThatFindsAll48() {
        edges.part("promise 10, all 48");
        int[] all = new int[48];
        for (int e = 0; e < 48; e++) {
            all[e] = e;
        }
        searched(Edges::full, 0, 2, 0, all);
        searched(Edges::chain, 0, 2, 3, all);
        searched(Edges::full, 0, 1, 0, Arrays.copyOfRange(all, 1, 48));
    }

    private static void searchChangesOnlyWhatIsFound() {
        edges.part("promise 10, the filter, the tree and the serial stay");
        edges.changesNothing("the same search again", Edges::stock, t -> t.search(0, 2, 0, 1));
        edges.answers("the filter", Edges::stock, t -> Math.min(t.search(0, 2, 0, 1), 0) + t.wipe(), 2);
        edges.answers("the serial", Edges::stock, t -> Math.min(t.search(0, 2, 0, 1), 0) + t.state(0), 13);
    }

    /** Searches with a filter that is TRUE for every entry: the found ones are those that are searched. */
    private static void searched(Edges.Steps before, int base, int scope, int mode, int... due) {
        Edges.Steps all = t -> {
            before.on(t);
            Edges.filter(t, NOT, 0, 0, HAS, 4, 0);
        };
        String call = "search(" + base + ", " + scope + ", " + mode + ", 0)";
        edges.answers(call, all, t -> t.search(base, scope, mode, 0), due.length);
        for (int i = 0; i <= due.length; i++) {
            int k = i;
            edges.answers(call + ", found(" + k + "), due are " + Arrays.toString(due), t -> {
                all.on(t);
                t.search(base, scope, mode, 0);
            }, t -> t.found(k), k < due.length ? due[k] : NONE);
        }
    }

    private static void scopeOfTheBaseAlone() {
        edges.part("terms, '0 the base alone'");
        searched(SearchEdgesTest::nothing, 0, 0, 0, 0);
        searched(Edges::stock, 0, 0, 0, 0);
        searched(Edges::stock, 1, 0, 0, 1);
        searched(Edges::stock, 3, 0, 0, 3);
        searched(Edges::stock, 4, 0, IN, 4);
    }

    private static void scopeOfWhatIsDirectlyUnder() {
        edges.part("terms, '1 what is directly under it'");
        searched(SearchEdgesTest::nothing, 0, 1, 0);
        searched(Edges::stock, 0, 1, 0, 1, 4, 5);
        searched(Edges::stock, 1, 1, 0, 2);
        searched(Edges::stock, 3, 1, 0);
        searched(Edges::stock, 4, 1, 0, 7, 8);
        searched(Edges::chain, 46, 1, 0, 47);
        searched(Edges::chain, 47, 1, 0);
    }

    private static void scopeOfItAndAllBelow() {
        edges.part("terms, '2 it and all below'");
        searched(SearchEdgesTest::nothing, 0, 2, 0, 0);
        searched(Edges::stock, 0, 2, 0, 0, 1, 2, 3, 4, 5, 7, 8);
        searched(Edges::stock, 1, 2, 0, 1, 2, 3);
        searched(Edges::stock, 3, 2, 0, 3);
        searched(Edges::stock, 4, 2, 0, 4, 7, 8);
        searched(Edges::chain, 45, 2, 0, 45, 46, 47);
    }

    /** 1 with 2 under it, 3 an alias of 1 and 4 an alias of 3. */
    private static void aliasOfASubtree(EntryTree tree) {
        tree.add(0, 1, NONE);
        tree.add(1, 1, NONE);
        tree.add(0, 2, 1);
        tree.add(0, 3, 3);
    }

    private static void baseThatIsAnAlias() {
        edges.part("terms, 'with TO a base that is an alias is replaced by what it leads to'");
        for (int base = 3; base <= 4; base++) {
            for (int mode = TO; mode <= TO + IN; mode++) {
                searched(SearchEdgesTest::aliasOfASubtree, base, 0, mode, 1);
                searched(SearchEdgesTest::aliasOfASubtree, base, 1, mode, 2);
                searched(SearchEdgesTest::aliasOfASubtree, base, 2, mode, 1, 2);
            }
            for (int mode = 0; mode <= IN; mode++) {
                searched(SearchEdgesTest::aliasOfASubtree, base, 0, mode, base);
                searched(SearchEdgesTest::aliasOfASubtree, base, 1, mode);
                searched(SearchEdgesTest::aliasOfASubtree, base, 2, mode, base);
            }
        }
        Edges.Steps longChain = t -> {
            for (int e = 1; e < 48; e++) {
                t.add(0, e, e - 1);
            }
        };
        searched(longChain, 47, 0, TO, 0);
    }

    private static void baseThatIsNoAliasWithTo() {
        edges.part("terms, with TO a base that is no alias stays");
        searched(Edges::stock, 1, 0, TO, 1);
        searched(Edges::stock, 1, 1, TO, 2);
        searched(Edges::stock, 1, 2, TO, 1, 2, 3);
        searched(Edges::stock, 0, 0, TO + IN, 0);
    }

    private static void aliasesAmongThemWithoutIn() {
        edges.part("terms, aliases among them stay without IN");
        for (int mode = 0; mode <= TO; mode += TO) {
            searched(SearchEdgesTest::aliasOfASubtree, 0, 1, mode, 1, 3, 4);
            searched(SearchEdgesTest::aliasOfASubtree, 0, 2, mode, 0, 1, 2, 3, 4);
            searched(SearchEdgesTest::leadingNowhere, 0, 1, mode, 1, 2, 3, 4, 5, 6, 7);
        }
    }

    /** 1 with 2 and 2 with 3 under it; 4 with 5, an alias of 1, under it. */
    private static void aliasBeside(EntryTree tree) {
        tree.add(0, 1, NONE);
        tree.add(1, 1, NONE);
        tree.add(2, 1, NONE);
        tree.add(0, 2, NONE);
        tree.add(4, 1, 1);
    }

    private static void aliasesAmongThem() {
        edges.part("terms, 'with IN each alias among them but the base is replaced by what it leads to'");
        for (int mode = IN; mode <= IN + TO; mode += TO) {
            searched(SearchEdgesTest::aliasBeside, 4, 0, mode, 4);
            searched(SearchEdgesTest::aliasBeside, 4, 1, mode, 1);
            searched(SearchEdgesTest::aliasBeside, 4, 2, mode, 1, 2, 3, 4);
            searched(SearchEdgesTest::aliasBeside, 0, 1, mode, 1, 4);
            searched(SearchEdgesTest::aliasBeside, 0, 2, mode, 0, 1, 2, 3, 4);
        }
        searched(SearchEdgesTest::aliasBeside, 5, 2, IN, 5);
        searched(SearchEdgesTest::aliasBeside, 5, 2, IN + TO, 1, 2, 3);
        Edges.Steps toTheRoot = t -> {
            aliasBeside(t);
            t.point(5, 0);
        };
        searched(toTheRoot, 4, 1, IN, 0);
        searched(toTheRoot, 4, 2, IN, 0, 1, 2, 3, 4);
        Edges.Steps toTheBase = t -> {
            aliasBeside(t);
            t.point(5, 4);
        };
        searched(toTheBase, 4, 1, IN, 4);
        searched(toTheBase, 4, 2, IN, 4);
    }

    private static void aliasesOfAliasesAmongThem() {
        edges.part("terms, 'or what that leads to if it is an alias itself'");
        Edges.Steps twice = t -> {
            aliasBeside(t);
            t.add(0, 3, 5);    // 6, an alias of the alias 5
            t.add(0, 4, NONE); // 7
            t.add(7, 1, 6);    // 8, an alias of 6
        };
        searched(twice, 7, 1, IN, 1);
        searched(twice, 7, 2, IN, 1, 2, 3, 7);
        searched(twice, 6, 2, IN, 6);
        searched(twice, 6, 2, IN + TO, 1, 2, 3);
    }

    private static void aliasesInWhatAnAliasBrings() {
        edges.part("terms, 'by all that is below that, in which aliases are replaced in the same way'");
        Edges.Steps onwards = t -> {
            t.add(0, 1, NONE); // 1, in it 4
            t.add(0, 2, NONE); // 2, in it 5
            t.add(0, 3, NONE); // 3, in it 6
            t.add(1, 1, 2);    // 4, an alias of 2
            t.add(2, 1, 3);    // 5, an alias of 3
            t.add(3, 1, NONE); // 6
            t.add(6, 1, 1);    // 7, an alias of 1
        };
        searched(onwards, 1, 1, IN, 2);
        searched(onwards, 1, 2, IN, 1, 2, 3, 6);
        searched(onwards, 2, 2, IN, 1, 2, 3, 6);
        searched(onwards, 6, 2, IN, 1, 2, 3, 6);
        searched(onwards, 4, 1, IN + TO, 3);
        searched(onwards, 4, 2, IN + TO, 1, 2, 3, 6);
    }

    private static void whatLeadsToNothingIsLeftOut() {
        edges.part("terms, '(What leads to nothing is left out'");
        searched(SearchEdgesTest::leadingNowhere, 0, 1, IN, 0);
        searched(SearchEdgesTest::leadingNowhere, 0, 2, IN, 0);
        searched(t -> {
            leadingNowhere(t);
            t.remove(7);
        }, 0, 1, IN);
        searched(Edges::stock, 4, 1, IN);
        searched(Edges::stock, 4, 2, IN, 4);
        searched(Edges::stock, 0, 1, IN, 1, 4);
    }

    private static void eachEntryCountsOnce() {
        edges.part("terms, 'each entry counts once.)'");
        Edges.Steps thrice = t -> {
            aliasBeside(t);
            t.add(4, 2, 1);
            t.add(4, 3, 5);
            t.add(4, 4, 2);
        };
        searched(thrice, 4, 1, IN, 1, 2);
        searched(thrice, 4, 2, IN, 1, 2, 3, 4);
        searched(thrice, 0, 2, IN, 0, 1, 2, 3, 4);
    }

    private static void aChainOfSubtrees() {
        edges.part("terms, 'in the same way', as far as 48 entries go");
        Edges.Steps pairs = t -> {
            for (int e = 1; e <= 24; e++) {
                t.add(0, e, NONE);
            }
            for (int e = 1; e <= 23; e++) {
                t.add(e, 0, e + 1); // 24 + e, under e, an alias of e + 1
            }
        };
        int[] all = new int[24];
        for (int i = 0; i < 24; i++) {
            all[i] = i + 1;
        }
        searched(pairs, 1, 2, IN, all);
        searched(pairs, 23, 2, IN, 23, 24);
        searched(pairs, 24, 2, IN, 24);
    }

    private static void foundByNumbers() {
        edges.part("terms, 'FOUND .. by numbers'");
        Edges.Steps upsideDown = t -> {
            t.add(0, 9, NONE);
            t.add(0, 8, NONE);
            t.add(0, 7, NONE);
            t.move(1, 3, 0);
            t.move(2, 1, 0);
        };
        searched(upsideDown, 3, 2, 0, 1, 2, 3);
        searched(upsideDown, 0, 2, 0, 0, 1, 2, 3);
    }

    private static void foundBeforeAnySearch() {
        edges.part("promise 11, 'NONE if there is none', before any search");
        edges.answers("found(0)", Edges::full, t -> t.found(0), NONE);
    }

    private static void foundOutOfRange() {
        edges.part("promise 11, 'NONE if there is none', k out of range");
        for (int far : Edges.outside(0, 7)) {
            edges.answersNone("found(" + far + ")", Edges::stock, t -> t.found(far));
        }
        Edges.Steps all = t -> {
            Edges.full(t);
            Edges.filter(t, NOT, 0, 0, HAS, 0, 0);
            t.search(0, 2, 0, 0);
        };
        for (int far : Edges.outside(0, 47)) {
            edges.answers("found(" + far + ") of 48", all, t -> t.found(far), NONE);
        }
    }

    private static void foundFirstAndLast() {
        edges.part("promise 11, 'the k-th entry (0 first)'");
        edges.answers("the first", Edges::stock, t -> t.found(0), 0);
        edges.answers("the last", Edges::stock, t -> t.found(7), 8);
        edges.answers("behind the last", Edges::stock, t -> t.found(8), NONE);
    }

    private static void foundAfterARefusedSearch() {
        edges.part("promise 11, 'by the latest search', which was refused");
        edges.answers("found(0)", Edges::stock, t -> t.search(0, 3, 0, 0) * 100 + t.found(0), -101);
        edges.answers("found(7)", Edges::stock, t -> t.search(0, 3, 0, 0) * 100 + t.found(7), -101);
    }

    private static void foundAfterALaterSearch() {
        edges.part("promise 11, 'by the latest search', which found less");
        edges.answers("found(0)", Edges::stock, t -> t.search(3, 0, 0, 0) * 100 + t.found(0), 103);
        edges.answers("found(1)", Edges::stock, t -> t.search(3, 0, 0, 0) * 100 + t.found(1), 99);
        edges.answers("found none", Edges::stock, t -> t.search(3, 1, 0, 0) * 100 + t.found(0), NONE);
    }

    private static void foundThatIsNotThereAnyMore() {
        edges.part("promise 11, '(also if it is not there any more: its number, still)'");
        edges.accepts("removed", Edges::stock, t -> t.remove(8) && t.found(7) == 8);
        edges.accepts("behind it none", Edges::stock, t -> t.remove(8) && t.found(8) == NONE);
        edges.accepts("one in the middle", Edges::stock, t -> t.remove(5) && t.found(5) == 5 && t.found(6) == 7);
        edges.accepts("its number used again", Edges::stock, t -> t.remove(3) && t.add(0, 50, NONE) == 3 && t.found(3) == 3);
        edges.accepts("what was added is not found", Edges::stock, t -> t.add(0, 50, NONE) == 6 && t.found(6) == 7 && t.found(8) == NONE);
        edges.accepts("what would be found no more", Edges::stock, t -> t.put(1, 4, 0, true) && t.found(1) == 1);
        edges.accepts("what moved", Edges::stock, t -> t.move(4, 3, 0) && t.found(4) == 4);
    }
}
