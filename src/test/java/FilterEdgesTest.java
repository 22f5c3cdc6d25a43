/** The boundary cases that promises 8 and 9 and the filters of promise 10 name, a method for each. */
public final class FilterEdgesTest {
    private static final int NONE = Edges.NONE;
    private static final int HAS = Edges.HAS, IS = Edges.IS, LEAST = Edges.LEAST, MOST = Edges.MOST;
    private static final int AND = Edges.AND, OR = Edges.OR, NOT = Edges.NOT;
    private static final int FALSE = 0, OPEN = 1, TRUE = 2;
    private static final Edges edges = new Edges();

    public static void main(String[] args) {
        tokenOfNoSuchKind();
        tokenOfNoSuchAttribute();
        tokenOfNoSuchValue();
        tokenOfTheLeastAndGreatest();
        tokenLooksOnlyAtWhatItNames();
        tokenUpToTwelve();
        tokenWhenThereAreTwelve();

        wipeAnEmptyFilter();
        wipeAFullFilter();
        wipeChangesNothingElse();

        searchWithNoToken();
        searchWithTooFewOperands();
        searchWithTooManyOperands();
        searchWithTokensInTheWrongOrder();
        searchWithOneToken();
        searchWithTwelveTokens();

        hasOfTheEmptySet();
        isOfOneValue();
        leastOfValuesAround();
        mostOfValuesAround();
        testsThatMayNotBeRead();
        andOfAllPairs();
        orOfAllPairs();
        notOfAll();
        openIsNotFound();
        edges.end();
    }

    private static void nothing(EntryTree tree) {
    }

    private static void tokenOfNoSuchKind() {
        edges.part("promise 8, 'if there is no such kind'");
        for (int far : Edges.NO_KINDS) {
            edges.answersNone("kind " + far, Edges::stock, t -> t.token(far, 0, 0));
            edges.answersNone("kind " + far + ", the first", FilterEdgesTest::nothing, t -> t.token(far, 0, 0));
        }
    }

    private static void tokenOfNoSuchAttribute() {
        edges.part("promise 8, 'no such .. attribute'");
        for (int i = HAS; i <= MOST; i++) {
            int kind = i;
            for (int far : Edges.NO_ATTRIBUTES) {
                edges.answersNone("kind " + kind + ", a " + far, Edges::stock, t -> t.token(kind, far, 0));
            }
        }
    }

    private static void tokenOfNoSuchValue() {
        edges.part("promise 8, 'no such .. value'");
        for (int i = IS; i <= MOST; i++) {
            int kind = i;
            for (int far : Edges.NO_VALUES) {
                edges.answersNone("kind " + kind + ", v " + far, Edges::stock, t -> t.token(kind, 0, far));
            }
        }
    }

    private static void tokenOfTheLeastAndGreatest() {
        edges.part("promise 8, what is in range");
        for (int i = HAS; i <= NOT; i++) {
            int kind = i;
            for (int a : new int[] {0, 5}) {
                for (int v : new int[] {0, 15}) {
                    edges.answers("token(" + kind + ", " + a + ", " + v + ")", FilterEdgesTest::nothing, t -> t.token(kind, a, v), 1);
                }
            }
        }
    }

    private static void tokenLooksOnlyAtWhatItNames() {
        edges.part("promise 8, '(a and v are looked at where the kind names them)'");
        for (int i = AND; i <= NOT; i++) {
            int kind = i;
            for (int far : Edges.NO_ATTRIBUTES) {
                edges.answers("kind " + kind + ", a " + far, Edges::stock, t -> t.token(kind, far, 0), 3);
            }
            for (int far : Edges.NO_VALUES) {
                edges.answers("kind " + kind + ", v " + far, Edges::stock, t -> t.token(kind, 0, far), 3);
                edges.answers("kind " + kind + ", both " + far, Edges::stock, t -> t.token(kind, far, far), 3);
            }
        }
        for (int far : Edges.NO_VALUES) {
            edges.answers("HAS, v " + far, Edges::stock, t -> t.token(HAS, 5, far), 3);
            edges.answers("HAS, v " + far + ", is a HAS", t -> {
                t.put(0, 5, 3, true);
                Edges.filter(t, HAS, 5, far);
            }, t -> t.search(0, 0, 0, 0), 1);
            edges.answers("NOT, " + far + ", is a NOT", t -> Edges.filter(t, NOT, far, far, HAS, 5, 0), t -> t.search(0, 0, 0, 0), 1);
            edges.answers("AND, " + far + ", is an AND", t -> Edges.filter(t, AND, far, far, HAS, 5, 0, HAS, 5, 0),
                t -> t.search(0, 0, 0, 0), 0);
            edges.answers("OR, " + far + ", is an OR", t -> Edges.filter(t, NOT, 0, 0, OR, far, far, HAS, 5, 0, HAS, 5, 0),
                t -> t.search(0, 0, 0, 0), 1);
        }
    }

    /** So many times NOT. */
    private static void nots(EntryTree tree, int count) {
        for (int i = 0; i < count; i++) {
            tree.token(NOT, 0, 0);
        }
    }

    private static void tokenUpToTwelve() {
        edges.part("promise 8, 'how many it has'");
        for (int i = 0; i < 12; i++) {
            int had = i;
            for (int j = HAS; j <= NOT; j++) {
                int kind = j;
                edges.answers("kind " + kind + " behind " + had, t -> nots(t, had), t -> t.token(kind, 0, 0), had + 1);
            }
        }
        edges.answers("the first after wipe", t -> {
            nots(t, 12);
            t.wipe();
        }, t -> t.token(HAS, 0, 0), 1);
    }

    private static void tokenWhenThereAreTwelve() {
        edges.part("promise 8, 'or there are 12'");
        Edges.Steps twelve = t -> {
            nots(t, 11);
            t.token(HAS, 0, 0);
            t.search(0, 0, 0, 0);
        };
        for (int i = HAS; i <= NOT; i++) {
            int kind = i;
            edges.answersNone("kind " + kind, twelve, t -> t.token(kind, 0, 0));
        }
        edges.accepts("again and again", twelve, t -> t.token(HAS, 0, 0) == NONE && t.token(HAS, 0, 0) == NONE && t.wipe() == 12);
        edges.accepts("room again", twelve, t -> t.token(HAS, 0, 0) == NONE && t.wipe() == 12 && t.token(HAS, 0, 0) == 1);
    }

    private static void wipeAnEmptyFilter() {
        edges.part("promise 9, an empty filter");
        edges.answers("new", FilterEdgesTest::nothing, EntryTree::wipe, 0);
        edges.answers("wiped", t -> {
            Edges.stock(t);
            t.wipe();
        }, EntryTree::wipe, 0);
        edges.answers("with one refused", t -> t.token(7, 0, 0), EntryTree::wipe, 0);
        edges.changesNothing("wipe()", FilterEdgesTest::nothing, EntryTree::wipe);
    }

    private static void wipeAFullFilter() {
        edges.part("promise 9, 'how many tokens it had'");
        for (int i = 1; i <= 12; i++) {
            int count = i;
            edges.answers("of " + count, t -> nots(t, count), EntryTree::wipe, count);
            edges.answers("empty after " + count, t -> {
                nots(t, count);
                t.wipe();
            }, EntryTree::wipe, 0);
        }
        edges.answers("of 13 the last of which was refused", t -> nots(t, 13), EntryTree::wipe, 12);
        edges.answers("tokens that are gone count no more", t -> {
            nots(t, 3);
            t.wipe();
            t.token(HAS, 0, 0);
        }, t -> t.search(0, 0, 0, 0), 0);
    }

    private static void wipeChangesNothingElse() {
        edges.part("promise 9, what was found stays");
        edges.answers("found(0)", Edges::stock, t -> t.wipe() + t.found(0), 2);
        edges.answers("found(7)", Edges::stock, t -> t.wipe() + t.found(7), 10);
        edges.answers("state(0)", Edges::stock, t -> t.wipe() + t.state(0), 15);
    }

    private static void isNoFilter(String what, int... tokens) {
        for (int scope = 0; scope < 3; scope++) {
            int asked = scope;
            edges.findsNothing(what + ", scope " + asked, t -> {
                Edges.stock(t);
                Edges.filter(t, tokens);
            }, t -> t.search(0, asked, 0, 0));
        }
        // Under 3 there is nothing that the filter could be tried on.
        edges.findsNothing(what + ", none searched", t -> {
            Edges.stock(t);
            Edges.filter(t, tokens);
        }, t -> t.search(3, 1, 0, 0));
    }

    private static void searchWithNoToken() {
        edges.part("promise 10, 'the filter is not one expression', empty");
        isNoFilter("no token");
    }

    private static void searchWithTooFewOperands() {
        edges.part("promise 10, 'the filter is not one expression', too few operands");
        isNoFilter("NOT", NOT, 0, 0);
        isNoFilter("AND", AND, 0, 0);
        isNoFilter("OR", OR, 0, 0);
        isNoFilter("AND HAS", AND, 0, 0, HAS, 0, 0);
        isNoFilter("OR HAS", OR, 0, 0, HAS, 0, 0);
        isNoFilter("NOT AND HAS", NOT, 0, 0, AND, 0, 0, HAS, 0, 0);
        isNoFilter("AND NOT HAS", AND, 0, 0, NOT, 0, 0, HAS, 0, 0);
        isNoFilter("AND OR HAS HAS", AND, 0, 0, OR, 0, 0, HAS, 0, 0, HAS, 0, 0);
        isNoFilter("AND HAS OR HAS", AND, 0, 0, HAS, 0, 0, OR, 0, 0, HAS, 0, 0);
        isNoFilter("twelve NOT", NOT, 0, 0, NOT, 0, 0, NOT, 0, 0, NOT, 0, 0, NOT, 0, 0, NOT, 0, 0,
            NOT, 0, 0, NOT, 0, 0, NOT, 0, 0, NOT, 0, 0, NOT, 0, 0, NOT, 0, 0);
        isNoFilter("six AND of six", AND, 0, 0, AND, 0, 0, AND, 0, 0, AND, 0, 0, AND, 0, 0, AND, 0, 0,
            HAS, 0, 0, HAS, 0, 0, HAS, 0, 0, HAS, 0, 0, HAS, 0, 0, HAS, 0, 0);
    }

    private static void searchWithTooManyOperands() {
        edges.part("promise 10, 'the filter is not one expression', too many operands");
        isNoFilter("HAS HAS", HAS, 0, 0, HAS, 0, 0);
        isNoFilter("NOT HAS HAS", NOT, 0, 0, HAS, 0, 0, HAS, 0, 0);
        isNoFilter("HAS NOT HAS", HAS, 0, 0, NOT, 0, 0, HAS, 0, 0);
        isNoFilter("AND HAS HAS HAS", AND, 0, 0, HAS, 0, 0, HAS, 0, 0, HAS, 0, 0);
        isNoFilter("HAS OR HAS HAS", HAS, 0, 0, OR, 0, 0, HAS, 0, 0, HAS, 0, 0);
        isNoFilter("twelve HAS", HAS, 0, 0, HAS, 0, 0, HAS, 0, 0, HAS, 0, 0, HAS, 0, 0, HAS, 0, 0,
            HAS, 0, 0, HAS, 0, 0, HAS, 0, 0, HAS, 0, 0, HAS, 0, 0, HAS, 0, 0);
        isNoFilter("five OR of seven", OR, 0, 0, OR, 0, 0, OR, 0, 0, OR, 0, 0, OR, 0, 0, HAS, 0, 0,
            HAS, 0, 0, HAS, 0, 0, HAS, 0, 0, HAS, 0, 0, HAS, 0, 0, HAS, 0, 0);
    }

    private static void searchWithTokensInTheWrongOrder() {
        edges.part("promise 10, 'the filter is not one expression', as many as are due but not before");
        isNoFilter("HAS NOT", HAS, 0, 0, NOT, 0, 0);
        isNoFilter("HAS HAS AND", HAS, 0, 0, HAS, 0, 0, AND, 0, 0);
        isNoFilter("HAS AND HAS", HAS, 0, 0, AND, 0, 0, HAS, 0, 0);
        isNoFilter("AND HAS HAS NOT", AND, 0, 0, HAS, 0, 0, HAS, 0, 0, NOT, 0, 0);
        isNoFilter("AND HAS NOT", AND, 0, 0, HAS, 0, 0, NOT, 0, 0);
        isNoFilter("OR HAS HAS AND HAS", OR, 0, 0, HAS, 0, 0, HAS, 0, 0, AND, 0, 0, HAS, 0, 0);
    }

    private static void searchWithOneToken() {
        edges.part("terms, 'a prefix list of 1 .. tokens'");
        for (int i = HAS; i <= MOST; i++) {
            int kind = i;
            edges.answers("kind " + kind, t -> {
                t.put(0, 0, 0, true);
                Edges.filter(t, kind, 0, 0);
            }, t -> t.search(0, 2, 0, 0), 1);
        }
    }

    private static void searchWithTwelveTokens() {
        edges.part("terms, 'a prefix list of .. 12 tokens'");
        Edges.Steps value = t -> t.put(0, 0, 0, true);
        edges.answers("eleven NOT", value, t -> {
            nots(t, 11);
            t.token(HAS, 0, 0);
            return t.search(0, 0, 0, 0);
        }, 0);
        edges.answers("eleven NOT of none", value, t -> {
            nots(t, 11);
            t.token(HAS, 1, 0);
            return t.search(0, 0, 0, 0);
        }, 1);
        for (int last = 0; last < 2; last++) {
            int a = last;
            edges.answers("NOT and five AND, of six, the last attribute " + a, value, t -> {
                nots(t, 1);
                five(t, AND);
                six(t, a);
                return t.search(0, 0, 0, 0);
            }, a == 0 ? 0 : 1);
            edges.answers("NOT and five OR, of six none of which is so but the last, attribute " + a, value, t -> {
                nots(t, 1);
                for (int i = 0; i < 5; i++) {
                    t.token(OR, 0, 0);
                    t.token(HAS, 1, 0);
                }
                t.token(HAS, a, 0);
                return t.search(0, 0, 0, 0);
            }, a == 0 ? 0 : 1);
        }
    }

    private static void five(EntryTree tree, int kind) {
        for (int i = 0; i < 5; i++) {
            tree.token(kind, 0, 0);
        }
    }

    private static void six(EntryTree tree, int lastAttribute) {
        for (int i = 0; i < 5; i++) {
            tree.token(HAS, 0, 0);
        }
        tree.token(HAS, lastAttribute, 0);
    }

    /** FALSE, OPEN or TRUE of a filter for the root and group 0, told by asking also for its NOT. */
    private static void isTruth(String what, Edges.Steps before, int due, int... tokens) {
        edges.answers(what, before, t -> {
            Edges.filter(t, tokens);
            return t.search(0, 0, 0, 0);
        }, due == TRUE ? 1 : 0);
        int[] turned = new int[tokens.length + 3];
        turned[0] = NOT;
        System.arraycopy(tokens, 0, turned, 3, tokens.length);
        edges.answers("NOT of " + what, before, t -> {
            Edges.filter(t, turned);
            return t.search(0, 0, 0, 0);
        }, due == FALSE ? 1 : 0);
    }

    private static void hasOfTheEmptySet() {
        edges.part("terms, 'HAS a: there is a value'");
        isTruth("HAS of none", FilterEdgesTest::nothing, FALSE, HAS, 0, 0);
        isTruth("HAS of 0 alone", t -> t.put(0, 0, 0, true), TRUE, HAS, 0, 0);
        isTruth("HAS of 15 alone", t -> t.put(0, 5, 15, true), TRUE, HAS, 5, 0);
        isTruth("HAS of what was taken away", t -> {
            t.put(0, 0, 3, true);
            t.put(0, 0, 3, false);
        }, FALSE, HAS, 0, 0);
        isTruth("HAS of another attribute", t -> t.put(0, 1, 0, true), FALSE, HAS, 0, 0);
    }

    private static void isOfOneValue() {
        edges.part("terms, 'IS a v: v is one'");
        for (int v = 0; v < 16; v++) {
            int value = v;
            for (int asked = 0; asked < 16; asked++) {
                isTruth("IS " + asked + " of " + value, t -> t.put(0, 0, value, true), asked == value ? TRUE : FALSE, IS, 0, asked);
            }
            isTruth("IS " + value + " of none", FilterEdgesTest::nothing, FALSE, IS, 0, value);
        }
    }

    private static void leastOfValuesAround() {
        edges.part("terms, 'LEAST a v: a value is v or more'");
        for (int v = 0; v < 16; v++) {
            int value = v;
            for (int asked = 0; asked < 16; asked++) {
                isTruth("LEAST " + asked + " of " + value, t -> t.put(0, 0, value, true), value >= asked ? TRUE : FALSE, LEAST, 0, asked);
            }
            isTruth("LEAST " + value + " of none", FilterEdgesTest::nothing, FALSE, LEAST, 0, value);
        }
        isTruth("LEAST 15 of 0 and 15", FilterEdgesTest::outermost, TRUE, LEAST, 0, 15);
    }

    private static void mostOfValuesAround() {
        edges.part("terms, 'MOST a v: a value is v or less'");
        for (int v = 0; v < 16; v++) {
            int value = v;
            for (int asked = 0; asked < 16; asked++) {
                isTruth("MOST " + asked + " of " + value, t -> t.put(0, 0, value, true), value <= asked ? TRUE : FALSE, MOST, 0, asked);
            }
            isTruth("MOST " + value + " of none", FilterEdgesTest::nothing, FALSE, MOST, 0, value);
        }
        isTruth("MOST 0 of 0 and 15", FilterEdgesTest::outermost, TRUE, MOST, 0, 0);
    }

    private static void outermost(EntryTree tree) {
        tree.put(0, 0, 0, true);
        tree.put(0, 0, 15, true);
    }

    private static void testsThatMayNotBeRead() {
        edges.part("terms, 'HAS to MOST are OPEN if the group may not read a there'");
        for (int kind = HAS; kind <= MOST; kind++) {
            isTruth("kind " + kind + ", it would be so", t -> {
                t.put(0, 0, 0, true);
                t.rule(0, 0, 0, 0);
            }, OPEN, kind, 0, 0);
            isTruth("kind " + kind + ", it would not be so", t -> t.rule(0, 0, 0, 0), OPEN, kind, 0, 0);
            isTruth("kind " + kind + ", another group may not", t -> {
                t.put(0, 0, 0, true);
                t.rule(0, 1, 0, 0);
            }, TRUE, kind, 0, 0);
            isTruth("kind " + kind + ", not another attribute", t -> {
                t.put(0, 0, 0, true);
                t.rule(0, 0, 1, 0);
            }, TRUE, kind, 0, 0);
        }
    }

    /** HAS of the attributes 0, 1 and 2 is FALSE, OPEN and TRUE. */
    private static void oneOfEach(EntryTree tree) {
        tree.rule(0, 0, 1, 0);
        tree.put(0, 2, 0, true);
    }

    private static void andOfAllPairs() {
        edges.part("terms, 'AND is FALSE if an operand is, else OPEN if one is'");
        int[][] due = {{FALSE, FALSE, FALSE}, {FALSE, OPEN, OPEN}, {FALSE, OPEN, TRUE}};
        for (int x = 0; x < 3; x++) {
            for (int y = 0; y < 3; y++) {
                isTruth("AND " + x + " " + y, FilterEdgesTest::oneOfEach, due[x][y], AND, 0, 0, HAS, x, 0, HAS, y, 0);
            }
        }
    }

    private static void orOfAllPairs() {
        edges.part("terms, 'OR is TRUE if an operand is, else OPEN if one is'");
        int[][] due = {{FALSE, OPEN, TRUE}, {OPEN, OPEN, TRUE}, {TRUE, TRUE, TRUE}};
        for (int x = 0; x < 3; x++) {
            for (int y = 0; y < 3; y++) {
                isTruth("OR " + x + " " + y, FilterEdgesTest::oneOfEach, due[x][y], OR, 0, 0, HAS, x, 0, HAS, y, 0);
            }
        }
    }

    private static void notOfAll() {
        edges.part("terms, 'NOT of OPEN is OPEN'");
        isTruth("NOT of FALSE", FilterEdgesTest::oneOfEach, TRUE, NOT, 0, 0, HAS, 0, 0);
        isTruth("NOT of OPEN", FilterEdgesTest::oneOfEach, OPEN, NOT, 0, 0, HAS, 1, 0);
        isTruth("NOT of TRUE", FilterEdgesTest::oneOfEach, FALSE, NOT, 0, 0, HAS, 2, 0);
        isTruth("NOT of NOT of OPEN", FilterEdgesTest::oneOfEach, OPEN, NOT, 0, 0, NOT, 0, 0, HAS, 1, 0);
        isTruth("OR of OPEN and its NOT", FilterEdgesTest::oneOfEach, OPEN, OR, 0, 0, HAS, 1, 0, NOT, 0, 0, HAS, 1, 0);
        isTruth("AND of OPEN and its NOT", FilterEdgesTest::oneOfEach, OPEN, AND, 0, 0, HAS, 1, 0, NOT, 0, 0, HAS, 1, 0);
    }

    private static void openIsNotFound() {
        edges.part("terms, 'FOUND are those for which the filter is TRUE'");
        Edges.Steps hiddenBelow = t -> {
            t.add(0, 1, NONE);
            t.add(0, 2, NONE);
            t.put(1, 0, 0, true);
            t.put(2, 0, 0, true);
            t.rule(1, 0, 0, 0);
            t.token(HAS, 0, 0);
        };
        edges.answers("OPEN is left out", hiddenBelow, t -> t.search(0, 2, 0, 0), 1);
        edges.answers("the one that is TRUE", hiddenBelow, t -> t.search(0, 2, 0, 0) + t.found(0), 3);
        edges.answers("none left for another group", hiddenBelow, t -> t.search(0, 2, 0, 1), 2);
    }
}
