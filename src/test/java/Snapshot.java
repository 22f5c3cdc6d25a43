import java.util.ArrayList;
import java.util.List;

/**
 * What can be asked of an EntryTree without changing it, to see that a refused call changes nothing.
 * Only the first entries are asked about, so that a test stays within the 512 calls of an object.
 */
final class Snapshot {
    private static final int ENTRIES = 8;

    private Snapshot() {
    }

    static List<Integer> of(EntryTree tree) {
        List<Integer> seen = new ArrayList<>();
        for (int what = 0; what < 4; what++) {
            seen.add(tree.state(what));
        }
        for (int e = 0; e < ENTRIES; e++) {
            seen.add(tree.found(e));
            seen.add(tree.changed(-1, e));
            for (int what = 0; what < 8; what++) {
                seen.add(tree.look(e, what));
            }
            for (int a = 0; a < 6; a++) {
                seen.add(tree.values(e, a, a % 4));
            }
        }
        return seen;
    }
}
