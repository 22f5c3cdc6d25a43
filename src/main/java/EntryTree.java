public final class EntryTree {
    public static final int NONE = -1, NOTHING = -2, HIDDEN = -3;

    private static final int ENTRIES = 48, ROOT = 0, NAMES = 100;
    private static final int ATTRIBUTES = 6, VALUES = 16, GROUPS = 4;
    private static final int RULES_OF_ENTRY = GROUPS * ATTRIBUTES;
    private static final int VALUE_SLOTS = ENTRIES * ATTRIBUTES, RULE_SLOTS = ENTRIES * RULES_OF_ENTRY;
    private static final int LAST_SERIAL = 1000000000;

    private static final int TOKENS = 12;
    private static final int HAS = 0, IS = 1, LEAST = 2, MOST = 3, AND = 4, OR = 5, NOT = 6;

    // In this order AND is the lesser operand, OR the greater one and NOT the mirror image.
    private static final int FALSE = 0, OPEN = 1, TRUE = 2;

    private static final int BASE_ALONE = 0, DIRECTLY_UNDER = 1, ALL_BELOW = 2;
    private static final int IN_BIT = 1, TO_BIT = 2, MODES = 4;

    // Shifted by one from what rule() is told, so that a new array says nothing.
    private static final int SAYS_NOTHING = 0, SAYS_YES = 2;

    private final boolean[] there = new boolean[ENTRIES];
    private final int[] parentOf = new int[ENTRIES];
    private final int[] nameOf = new int[ENTRIES];
    private final int[] aliasOf = new int[ENTRIES];
    private final int[] serialOf = new int[ENTRIES];
    private final int[] valueBits = new int[VALUE_SLOTS];
    private final int[] ruleSays = new int[RULE_SLOTS];
    private int serial = 0;

    private final int[] tokenKind = new int[TOKENS];
    private final int[] tokenAttribute = new int[TOKENS];
    private final int[] tokenValue = new int[TOKENS];
    private final int[] truths = new int[TOKENS];
    private int tokenCount = 0;

    private final boolean[] searched = new boolean[ENTRIES];
    private final boolean[] isTop = new boolean[ENTRIES];
    private final int[] tops = new int[ENTRIES];
    private int topCount = 0;

    private final int[] foundEntries = new int[ENTRIES];
    private int foundCount = 0;

    public EntryTree() {
        there[ROOT] = true;
        parentOf[ROOT] = NONE;
        nameOf[ROOT] = NONE;
        aliasOf[ROOT] = NONE;
    }

    public int add(int parent, int name, int alias) {
        if (serialIsSpent() || !canBeUnder(parent, name, NONE)) {
            return NONE;
        }
        if (alias != NONE && !isThere(alias)) {
            return NONE;
        }
        int e = leastFree();
        if (e == NONE) {
            return NONE;
        }
        there[e] = true;
        parentOf[e] = parent;
        nameOf[e] = name;
        aliasOf[e] = alias;
        stamp(e);
        return e;
    }

    public boolean remove(int e) {
        if (serialIsSpent() || !isThere(e) || e == ROOT || countUnder(e) > 0) {
            return false;
        }
        there[e] = false;
        unpointAliasesOf(e);
        forgetValues(e);
        forgetRules(e);
        serial++;
        return true;
    }

    public boolean move(int e, int parent, int name) {
        if (serialIsSpent() || !isThere(e) || e == ROOT) {
            return false;
        }
        if (!canBeUnder(parent, name, e) || isWithin(parent, e)) {
            return false;
        }
        parentOf[e] = parent;
        nameOf[e] = name;
        stamp(e);
        return true;
    }

    public boolean point(int e, int to) {
        if (serialIsSpent() || !isThere(e) || !isThere(to) || !isAlias(e)) {
            return false;
        }
        aliasOf[e] = to;
        stamp(e);
        return true;
    }

    public boolean put(int e, int a, int v, boolean on) {
        if (serialIsSpent() || !isThere(e) || isAlias(e) || !isAttribute(a) || !isValue(v)) {
            return false;
        }
        int slot = e * ATTRIBUTES + a;
        int bit = 1 << v;
        boolean wasOn = (valueBits[slot] & bit) != 0;
        if (wasOn == on) {
            return false;
        }
        valueBits[slot] ^= bit;
        stamp(e);
        return true;
    }

    public boolean rule(int e, int group, int a, int says) {
        if (!isThere(e) || !isGroup(group) || !isAttribute(a) || says < -1 || says > 1) {
            return false;
        }
        ruleSays[e * RULES_OF_ENTRY + group * ATTRIBUTES + a] = says + 1;
        return true;
    }

    public int token(int kind, int a, int v) {
        if (tokenCount >= TOKENS || kind < HAS || kind > NOT) {
            return NONE;
        }
        boolean namesAttribute = kind <= MOST;
        boolean namesValue = namesAttribute && kind != HAS;
        if (namesAttribute && !isAttribute(a) || namesValue && !isValue(v)) {
            return NONE;
        }
        tokenKind[tokenCount] = kind;
        tokenAttribute[tokenCount] = namesAttribute ? a : 0;
        tokenValue[tokenCount] = namesValue ? v : 0;
        tokenCount++;
        return tokenCount;
    }

    public int wipe() {
        int had = tokenCount;
        tokenCount = 0;
        return had;
    }

    public int search(int base, int scope, int mode, int group) {
        foundCount = 0;
        if (!isThere(base) || scope < BASE_ALONE || scope > ALL_BELOW) {
            return NONE;
        }
        if (mode < 0 || mode >= MODES || !isGroup(group) || !filterIsOneExpression()) {
            return NONE;
        }
        int top = (mode & TO_BIT) != 0 ? leadsTo(base) : base;
        if (top == NOTHING) {
            return NONE;
        }
        markSearched(top, scope, (mode & IN_BIT) != 0);
        collectFound(group);
        return foundCount;
    }

    public int found(int k) {
        return k >= 0 && k < foundCount ? foundEntries[k] : NONE;
    }

    public int child(int parent, int name) {
        return isThere(parent) ? entryNamed(parent, name) : NONE;
    }

    public int look(int e, int what) {
        if (!isThere(e)) {
            return NONE;
        }
        switch (what) {
            case 0:
                return parentOf[e];
            case 1:
                return nameOf[e];
            case 2:
                return aliasOf[e];
            case 3:
                return countUnder(e);
            case 4:
                return countBelow(e);
            case 5:
                return depthOf(e);
            case 6:
                return serialOf[e];
            case 7:
                return leadsTo(e);
            default:
                return NONE;
        }
    }

    public int values(int e, int a, int group) {
        if (!isThere(e) || !isAttribute(a) || !isGroup(group)) {
            return NONE;
        }
        return mayRead(e, a, group) ? valueBits[e * ATTRIBUTES + a] : HIDDEN;
    }

    public int changed(int after, int k) {
        if (k < 0 || k >= ENTRIES) {
            return NONE;
        }
        int e = nextChanged(after);
        for (int passed = 0; passed < k && e != NONE; passed++) {
            e = nextChanged(serialOf[e]);
        }
        return e;
    }

    public int state(int what) {
        switch (what) {
            case 0:
                return serial;
            case 1:
                return countThere();
            case 2:
                return countAliasesOfNothing();
            case 3:
                return greatestDepth();
            default:
                return NONE;
        }
    }

    private boolean isThere(int e) {
        return e >= 0 && e < ENTRIES && there[e];
    }

    private boolean isAlias(int e) {
        return aliasOf[e] != NONE;
    }

    private boolean isAttribute(int a) {
        return a >= 0 && a < ATTRIBUTES;
    }

    private boolean isValue(int v) {
        return v >= 0 && v < VALUES;
    }

    private boolean isGroup(int group) {
        return group >= 0 && group < GROUPS;
    }

    private boolean serialIsSpent() {
        return serial >= LAST_SERIAL;
    }

    private void stamp(int e) {
        serial++;
        serialOf[e] = serial;
    }

    // The mover may keep the name that it has itself; NONE stands for an entry that is new.
    private boolean canBeUnder(int parent, int name, int mover) {
        if (!isThere(parent) || isAlias(parent) || name < 0 || name >= NAMES) {
            return false;
        }
        int holder = entryNamed(parent, name);
        return holder == NONE || holder == mover;
    }

    private int entryNamed(int parent, int name) {
        for (int e = 0; e < ENTRIES; e++) {
            if (there[e] && parentOf[e] == parent && nameOf[e] == name) {
                return e;
            }
        }
        return NONE;
    }

    private int leastFree() {
        for (int e = 0; e < ENTRIES; e++) {
            if (!there[e]) {
                return e;
            }
        }
        return NONE;
    }

    private void unpointAliasesOf(int gone) {
        for (int e = 0; e < ENTRIES; e++) {
            if (there[e] && aliasOf[e] == gone) {
                aliasOf[e] = NOTHING;
            }
        }
    }

    private void forgetValues(int e) {
        for (int a = 0; a < ATTRIBUTES; a++) {
            valueBits[e * ATTRIBUTES + a] = 0;
        }
    }

    private void forgetRules(int e) {
        for (int i = 0; i < RULES_OF_ENTRY; i++) {
            ruleSays[e * RULES_OF_ENTRY + i] = SAYS_NOTHING;
        }
    }

    private boolean isWithin(int e, int top) {
        int at = e;
        for (int step = 0; step < ENTRIES && at >= 0; step++) {
            if (at == top) {
                return true;
            }
            at = parentOf[at];
        }
        return false;
    }

    private int depthOf(int e) {
        int depth = 0;
        int at = parentOf[e];
        for (int step = 0; step < ENTRIES && at >= 0; step++) {
            depth++;
            at = parentOf[at];
        }
        return depth;
    }

    private int leadsTo(int e) {
        int at = e;
        // A way of more steps than there are entries has met one twice: it never ends.
        for (int step = 0; step < ENTRIES && at >= 0; step++) {
            if (!isAlias(at)) {
                return at;
            }
            at = aliasOf[at];
        }
        return NOTHING;
    }

    private int countUnder(int parent) {
        int count = 0;
        for (int e = 0; e < ENTRIES; e++) {
            if (there[e] && parentOf[e] == parent) {
                count++;
            }
        }
        return count;
    }

    private int countBelow(int top) {
        int count = 0;
        for (int e = 0; e < ENTRIES; e++) {
            if (there[e] && e != top && isWithin(e, top)) {
                count++;
            }
        }
        return count;
    }

    private int countThere() {
        int count = 0;
        for (int e = 0; e < ENTRIES; e++) {
            if (there[e]) {
                count++;
            }
        }
        return count;
    }

    private int countAliasesOfNothing() {
        int count = 0;
        for (int e = 0; e < ENTRIES; e++) {
            if (there[e] && aliasOf[e] == NOTHING) {
                count++;
            }
        }
        return count;
    }

    private int greatestDepth() {
        int greatest = 0;
        for (int e = 0; e < ENTRIES; e++) {
            int depth = there[e] ? depthOf(e) : 0;
            if (depth > greatest) {
                greatest = depth;
            }
        }
        return greatest;
    }

    private int nextChanged(int after) {
        int next = NONE;
        for (int e = 0; e < ENTRIES; e++) {
            if (there[e] && serialOf[e] > after) {
                if (next == NONE || serialOf[e] < serialOf[next]) {
                    next = e;
                }
            }
        }
        return next;
    }

    private boolean mayRead(int e, int a, int group) {
        int at = e;
        for (int step = 0; step < ENTRIES && at >= 0; step++) {
            int says = ruleSays[at * RULES_OF_ENTRY + group * ATTRIBUTES + a];
            if (says != SAYS_NOTHING) {
                return says == SAYS_YES;
            }
            at = parentOf[at];
        }
        return true;
    }

    // A prefix list is read from its end, so that operands come before what joins them.
    private boolean filterIsOneExpression() {
        int height = 0;
        for (int i = tokenCount - 1; i >= 0; i--) {
            int operands = operandsOf(tokenKind[i]);
            if (height < operands) {
                return false;
            }
            height = height - operands + 1;
        }
        return height == 1;
    }

    private int operandsOf(int kind) {
        if (kind == AND || kind == OR) {
            return 2;
        }
        return kind == NOT ? 1 : 0;
    }

    // Only called when the filter is one expression, so the operands are there.
    private int truthFor(int e, int group) {
        int height = 0;
        for (int i = tokenCount - 1; i >= 0; i--) {
            int kind = tokenKind[i];
            if (kind == NOT) {
                truths[height - 1] = TRUE - truths[height - 1];
            } else if (kind == AND || kind == OR) {
                height--;
                truths[height - 1] = joined(kind, truths[height], truths[height - 1]);
            } else {
                truths[height] = truthOfTest(i, e, group);
                height++;
            }
        }
        return truths[0];
    }

    private int joined(int kind, int first, int second) {
        boolean takesFirst = kind == AND ? first < second : first > second;
        return takesFirst ? first : second;
    }

    private int truthOfTest(int i, int e, int group) {
        int a = tokenAttribute[i];
        if (!mayRead(e, a, group)) {
            return OPEN;
        }
        int matching = valueBits[e * ATTRIBUTES + a] & bitsThatMatch(tokenKind[i], tokenValue[i]);
        return matching != 0 ? TRUE : FALSE;
    }

    private int bitsThatMatch(int kind, int v) {
        switch (kind) {
            case IS:
                return 1 << v;
            case LEAST:
                return -1 << v;
            case MOST:
                return (2 << v) - 1;
            default:
                return -1;
        }
    }

    private void markSearched(int base, int scope, boolean in) {
        for (int e = 0; e < ENTRIES; e++) {
            searched[e] = false;
            isTop[e] = false;
        }
        topCount = 0;
        if (scope == BASE_ALONE) {
            searched[base] = true;
        } else if (scope == DIRECTLY_UNDER) {
            markUnder(base, in);
        } else {
            markAllBelow(base, in);
        }
    }

    private void markUnder(int base, boolean in) {
        for (int e = 0; e < ENTRIES; e++) {
            if (there[e] && parentOf[e] == base) {
                int target = in ? leadsTo(e) : e;
                if (target != NOTHING) {
                    searched[target] = true;
                }
            }
        }
    }

    // Each subtree that an alias brings in is gone through once, however many aliases lead there.
    private void markAllBelow(int base, boolean in) {
        queueTop(base);
        for (int i = 0; i < ENTRIES && i < topCount; i++) {
            markSubtree(tops[i], base, in);
        }
    }

    private void markSubtree(int top, int base, boolean in) {
        for (int e = 0; e < ENTRIES; e++) {
            if (there[e] && isWithin(e, top)) {
                if (in && e != base && isAlias(e)) {
                    int target = leadsTo(e);
                    queueTop(target);
                } else {
                    searched[e] = true;
                }
            }
        }
    }

    private void queueTop(int top) {
        if (top != NOTHING && !isTop[top]) {
            isTop[top] = true;
            tops[topCount] = top;
            topCount++;
        }
    }

    private void collectFound(int group) {
        for (int e = 0; e < ENTRIES; e++) {
            if (searched[e] && truthFor(e, group) == TRUE) {
                foundEntries[foundCount] = e;
                foundCount++;
            }
        }
    }
}
