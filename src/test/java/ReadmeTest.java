import java.io.IOException;
import java.lang.reflect.Method;
import java.lang.reflect.Modifier;
import java.nio.file.DirectoryStream;
import java.nio.file.Files;
import java.nio.file.Path;

/** What README.md says of the use of the class: its example is run here, and is the same there. */
public final class ReadmeTest {
    private static final Path README = Path.of("README.md"), TESTS = Path.of("src/test/java");
    private static final Check check = new Check();

    public static void main(String[] args) throws IOException {
        exampleAnswersWhatItSays();
        String readme = Files.readString(README);
        exampleIsThatOfReadme(readme);
        everyCallIsNamed(readme);
        everyTestIsNamed(readme);
        check.end();
    }

    private static void exampleAnswersWhatItSays() {
        check.part("example");
        // example begins
        EntryTree tree = new EntryTree();
        int people = tree.add(0, 10, EntryTree.NONE);   // 1: under the root, by the name 10
        int ann = tree.add(people, 1, EntryTree.NONE);  // 2
        int boss = tree.add(0, 11, ann);                // 3: an alias of ann
        tree.put(ann, 0, 5, true);                      // attribute 0 of ann has the value 5
        tree.rule(people, 3, 0, 0);                     // group 3 may not read attribute 0 from people down

        tree.token(4, 0, 0);                            // the filter: AND
        tree.token(2, 0, 4);                            // of LEAST, attribute 0, value 4
        tree.token(6, 0, 0);                            // and NOT
        tree.token(1, 0, 9);                            // of IS, attribute 0, value 9
        int count = tree.search(0, 2, 1, 0);            // 1: the root and all below, IN, for group 0
        int first = tree.found(0);                      // 2: ann, who counts once
        int open = tree.search(0, 2, 1, 3);             // 0: for group 3 the filter is OPEN at ann
        int under = tree.search(0, 1, 0, 0);            // 0: what is directly under the root has no values
        int hidden = tree.values(ann, 0, 3);            // HIDDEN
        int latest = tree.changed(3, 0);                // 2: ann was put to after serial 3

        tree.move(ann, 0, 12);                          // out of people, so out of its rule
        int shown = tree.values(ann, 0, 3);             // 32: 2^5
        tree.remove(ann);
        int lost = tree.look(boss, 7);                  // NOTHING: what boss leads to
        // example ends
        check.due("people", people, 1);
        check.due("ann", ann, 2);
        check.due("boss", boss, 3);
        check.due("count", count, 1);
        check.due("first", first, 2);
        check.due("open", open, 0);
        check.due("under", under, 0);
        check.due("hidden", hidden, EntryTree.HIDDEN);
        check.due("latest", latest, 2);
        check.due("shown", shown, 32);
        check.due("lost", lost, EntryTree.NOTHING);
    }

    private static void exampleIsThatOfReadme(String readme) throws IOException {
        check.part("the same");
        String here = Files.readString(TESTS.resolve("ReadmeTest.java"));
        String run = between(here, "// example begins\n", "\n        // example ends").stripIndent();
        String told = between(readme, "```java\n", "\n```");
        check.holds("README.md has the example that is run here", !told.isEmpty() && told.equals(run));
    }

    private static String between(String text, String begin, String end) {
        int from = text.indexOf(begin);
        int to = from < 0 ? -1 : text.indexOf(end, from + begin.length());
        return to < 0 ? "" : text.substring(from + begin.length(), to);
    }

    private static void everyCallIsNamed(String readme) {
        check.part("calls");
        for (Method method : EntryTree.class.getDeclaredMethods()) {
            if (Modifier.isPublic(method.getModifiers())) {
                String row = between(readme, "\n| `" + method.getName() + "(", ")` |");
                int named = row.isEmpty() ? 0 : row.split(",").length;
                check.due("arguments of " + method.getName() + " in its row", named, method.getParameterCount());
            }
        }
        check.holds("wipe has a row", readme.contains("\n| `wipe()` |"));
    }

    private static void everyTestIsNamed(String readme) throws IOException {
        check.part("tests");
        try (DirectoryStream<Path> tests = Files.newDirectoryStream(TESTS, "*Test.java")) {
            for (Path test : tests) {
                String name = test.getFileName().toString().replace(".java", "");
                check.holds(name + " has a row", readme.contains("\n| `" + name + "` |"));
            }
        }
    }
}
