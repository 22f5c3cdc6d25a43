import java.util.ArrayList;
import java.util.Comparator;
import java.util.HashMap;
import java.util.HashSet;
import java.util.List;
import java.util.Map;
import java.util.Set;
import java.util.TreeMap;
import java.util.TreeSet;

/**
 * The document once more, in other means than those of EntryTree (objects, recursion, the library),
 * for ModelTest to compare with.
 */
final class PlainTree {
    private static final int NONE = -1, NOTHING = -2, HIDDEN = -3;

    private static final class Entry {
        int number;
        Entry parent;
        int name = NONE;
        boolean isAlias;
        Entry target;
        int serial;
        final Map<Integer, Set<Integer>> values = new HashMap<>();
        final Map<List<Integer>, Boolean> rules = new HashMap<>();

        Set<Integer> of(int a) {
            return values.computeIfAbsent(a, key -> new TreeSet<>());
        }
    }

    private final TreeMap<Integer, Entry> entries = new TreeMap<>();
    private final List<int[]> filter = new ArrayList<>();
    private List<Integer> found = new ArrayList<>();
    private int serial = 0;

    PlainTree() {
        entries.put(0, new Entry());
    }

    private static boolean in(int x, int end) {
        return 0 <= x && x < end;
    }

    private Entry under(Entry parent, int name) {
        for (Entry entry : entries.values()) {
            if (entry.parent == parent && parent != null && entry.name == name) {
                return entry;
            }
        }
        return null;
    }

    private static List<Entry> wayUp(Entry entry) {
        List<Entry> way = new ArrayList<>();
        for (Entry at = entry; at != null; at = at.parent) {
            way.add(at);
        }
        return way;
    }

    private List<Entry> withAllBelow(Entry top) {
        List<Entry> all = new ArrayList<>();
        all.add(top);
        for (Entry entry : entries.values()) {
            if (entry.parent == top) {
                all.addAll(withAllBelow(entry));
            }
        }
        return all;
    }

    private static Entry leadsTo(Entry entry) {
        Set<Entry> met = new HashSet<>();
        Entry at = entry;
        while (at != null && at.isAlias) {
            if (!met.add(at)) {
                return null;
            }
            at = at.target;
        }
        return at;
    }

    int add(int parent, int name, int alias) {
        Entry above = entries.get(parent);
        if (above == null || above.isAlias || !in(name, 100) || under(above, name) != null) {
            return NONE;
        }
        if (alias != NONE && !entries.containsKey(alias) || entries.size() == 48) {
            return NONE;
        }
        Entry entry = new Entry();
        while (entries.containsKey(entry.number)) {
            entry.number++;
        }
        entry.parent = above;
        entry.name = name;
        entry.isAlias = alias != NONE;
        entry.target = entries.get(alias);
        entry.serial = ++serial;
        entries.put(entry.number, entry);
        return entry.number;
    }

    boolean remove(int e) {
        Entry entry = entries.get(e);
        if (entry == null || e == 0 || withAllBelow(entry).size() > 1) {
            return false;
        }
        entries.remove(e);
        for (Entry other : entries.values()) {
            other.target = other.target == entry ? null : other.target;
        }
        serial++;
        return true;
    }

    boolean move(int e, int parent, int name) {
        Entry entry = entries.get(e);
        Entry above = entries.get(parent);
        if (entry == null || above == null || e == 0 || above.isAlias || wayUp(above).contains(entry)) {
            return false;
        }
        Entry holder = under(above, name);
        if (!in(name, 100) || holder != null && holder != entry) {
            return false;
        }
        entry.parent = above;
        entry.name = name;
        entry.serial = ++serial;
        return true;
    }

    boolean point(int e, int to) {
        Entry entry = entries.get(e);
        if (entry == null || !entries.containsKey(to) || !entry.isAlias) {
            return false;
        }
        entry.target = entries.get(to);
        entry.serial = ++serial;
        return true;
    }

    boolean put(int e, int a, int v, boolean on) {
        Entry entry = entries.get(e);
        if (entry == null || entry.isAlias || !in(a, 6) || !in(v, 16)) {
            return false;
        }
        boolean done = on ? entry.of(a).add(v) : entry.of(a).remove(v);
        if (done) {
            entry.serial = ++serial;
        }
        return done;
    }

    boolean rule(int e, int group, int a, int says) {
        Entry entry = entries.get(e);
        if (entry == null || !in(group, 4) || !in(a, 6) || !in(says + 1, 3)) {
            return false;
        }
        entry.rules.remove(List.of(group, a));
        if (says != -1) {
            entry.rules.put(List.of(group, a), says == 1);
        }
        return true;
    }

    private static boolean mayRead(Entry entry, int group, int a) {
        for (Entry at : wayUp(entry)) {
            Boolean says = at.rules.get(List.of(group, a));
            if (says != null) {
                return says;
            }
        }
        return true;
    }

    int token(int kind, int a, int v) {
        boolean fits = in(kind, 7) && (kind > 3 || in(a, 6)) && (kind > 3 || kind == 0 || in(v, 16));
        if (!fits || filter.size() == 12) {
            return NONE;
        }
        filter.add(new int[] {kind, a, v});
        return filter.size();
    }

    int wipe() {
        int had = filter.size();
        filter.clear();
        return had;
    }

    /** The place behind the expression that begins at i; NONE if none does. */
    private int behind(int i) {
        if (i == NONE || i >= filter.size()) {
            return NONE;
        }
        int kind = filter.get(i)[0];
        if (kind < 4) {
            return i + 1;
        }
        int next = behind(i + 1);
        return kind == 6 ? next : behind(next);
    }

    /** TRUE and FALSE as such, null for OPEN. */
    private Boolean truth(int i, Entry entry, int group) {
        int[] token = filter.get(i);
        if (token[0] < 4) {
            return mayRead(entry, group, token[1]) ? test(token, entry.of(token[1])) : null;
        }
        Boolean first = truth(i + 1, entry, group);
        if (token[0] == 6) {
            return first == null ? null : Boolean.valueOf(!first);
        }
        Boolean second = truth(behind(i + 1), entry, group);
        Boolean deciding = token[0] == 5;
        if (deciding.equals(first) || deciding.equals(second)) {
            return deciding;
        }
        return first == null || second == null ? null : Boolean.valueOf(!deciding);
    }

    private static boolean test(int[] token, Set<Integer> values) {
        for (int value : values) {
            boolean fits = token[0] == 0
                || token[0] == 1 && value == token[2]
                || token[0] == 2 && value >= token[2]
                || token[0] == 3 && value <= token[2];
            if (fits) {
                return true;
            }
        }
        return false;
    }

    private void follow(Entry entry, boolean below, Set<Entry> searched, Set<Entry> followed) {
        if (!entry.isAlias) {
            searched.add(entry);
            return;
        }
        Entry target = leadsTo(entry);
        if (target == null || !followed.add(target)) {
            return;
        }
        for (Entry other : below ? withAllBelow(target) : List.of(target)) {
            follow(other, below, searched, followed);
        }
    }

    int search(int base, int scope, int mode, int group) {
        found = new ArrayList<>();
        Entry start = entries.get(base);
        if (start == null || !in(scope, 3) || !in(mode, 4) || !in(group, 4)) {
            return NONE;
        }
        Entry top = mode >= 2 ? leadsTo(start) : start;
        if (top == null || filter.isEmpty() || behind(0) != filter.size()) {
            return NONE;
        }
        List<Entry> scoped = new ArrayList<>(scope == 0 ? List.of(top) : withAllBelow(top));
        if (scope == 1) {
            scoped.removeIf(entry -> entry.parent != top);
        }
        Set<Entry> searched = new HashSet<>();
        Set<Entry> followed = new HashSet<>();
        for (Entry entry : scoped) {
            if (mode % 2 == 0 || entry == top) {
                searched.add(entry);
            } else {
                follow(entry, scope == 2, searched, followed);
            }
        }
        searched.stream().filter(entry -> Boolean.TRUE.equals(truth(0, entry, group)))
            .map(entry -> entry.number).sorted().forEach(found::add);
        return found.size();
    }

    int found(int k) {
        return in(k, found.size()) ? found.get(k) : NONE;
    }

    int child(int parent, int name) {
        Entry entry = under(entries.get(parent), name);
        return entry == null ? NONE : entry.number;
    }

    int look(int e, int what) {
        Entry entry = entries.get(e);
        if (entry == null) {
            return NONE;
        }
        return switch (what) {
            case 0 -> entry.parent == null ? NONE : entry.parent.number;
            case 1 -> entry.name;
            case 2 -> !entry.isAlias ? NONE : entry.target == null ? NOTHING : entry.target.number;
            case 3 -> (int) entries.values().stream().filter(other -> other.parent == entry).count();
            case 4 -> withAllBelow(entry).size() - 1;
            case 5 -> wayUp(entry).size() - 1;
            case 6 -> entry.serial;
            case 7 -> leadsTo(entry) == null ? NOTHING : leadsTo(entry).number;
            default -> NONE;
        };
    }

    int values(int e, int a, int group) {
        Entry entry = entries.get(e);
        if (entry == null || !in(a, 6) || !in(group, 4)) {
            return NONE;
        }
        return mayRead(entry, group, a) ? entry.of(a).stream().mapToInt(v -> 1 << v).sum() : HIDDEN;
    }

    int changed(int after, int k) {
        List<Entry> later = new ArrayList<>(entries.values());
        later.removeIf(entry -> entry.serial <= after);
        later.sort(Comparator.comparingInt(entry -> entry.serial));
        return in(k, later.size()) ? later.get(k).number : NONE;
    }

    int state(int what) {
        return switch (what) {
            case 0 -> serial;
            case 1 -> entries.size();
            case 2 -> (int) entries.values().stream()
                .filter(entry -> entry.isAlias && entry.target == null).count();
            case 3 -> entries.values().stream().mapToInt(entry -> wayUp(entry).size() - 1).max().getAsInt();
            default -> NONE;
        };
    }
}
