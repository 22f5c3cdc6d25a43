import java.io.IOException;
import java.lang.reflect.Field;
import java.lang.reflect.Member;
import java.lang.reflect.Method;
import java.lang.reflect.Modifier;
import java.nio.file.Files;
import java.nio.file.Path;
import java.util.ArrayList;
import java.util.Collections;
import java.util.HashSet;
import java.util.List;
import java.util.Set;
import java.util.regex.Matcher;
import java.util.regex.Pattern;

/** The public face of the document, and those rules of LANGUAGE.md that a test can see. */
public final class LanguageTest {
    private static final Path SOURCE = Path.of("src/main/java/EntryTree.java");
    private static final List<String> FACE = List.of(
        "public int add(int, int, int)", "public boolean remove(int)", "public boolean move(int, int, int)",
        "public boolean point(int, int)", "public boolean put(int, int, int, boolean)",
        "public boolean rule(int, int, int, int)", "public int token(int, int, int)", "public int wipe()",
        "public int search(int, int, int, int)", "public int found(int)", "public int child(int, int)",
        "public int look(int, int)", "public int values(int, int, int)", "public int changed(int, int)",
        "public int state(int)");
    private static final Set<Class<?>> TYPES = Set.of(
        int.class, long.class, short.class, byte.class, char.class, boolean.class,
        int[].class, long[].class, short[].class, byte[].class, char[].class, boolean[].class);
    private static final List<String> BANNED = List.of(
        "float", "double", "String", "Math", "Integer", "System", "Arrays", "Object", "import", "package", "null",
        "throw", "throws", "try", "catch", "synchronized", "assert", "instanceof", "class (?!EntryTree)", "enum",
        "interface", "record", "super", "toString", "hashCode", "equals", "clone", "->", "::");
    private static final Set<String> WORDS_BEFORE_BRACKETS = Set.of("if", "for", "while", "switch", "return");
    private static final Check check = new Check();

    public static void main(String[] args) throws IOException {
        faceIsThatOfTheDocument();
        fieldsAreNumbersAndArrays();
        methodsArePrivateAndNamedApart();
        String code = withoutComments(Files.readString(SOURCE));
        wordsThatAreNotUsed(code);
        arraysAreMadeAtTheStart(code);
        arraysStayInTheirFields(code);
        loopsHaveBounds(code);
        callsStandAlone(code);
        methodsAreShort(code);
        check.end();
    }

    private static void faceIsThatOfTheDocument() {
        check.part("face");
        Set<String> got = new HashSet<>();
        for (Method method : EntryTree.class.getDeclaredMethods()) {
            if (Modifier.isPublic(method.getModifiers())) {
                got.add(method.toString().replace("EntryTree.", "").replace(",", ", "));
            }
        }
        check.holds("the methods are " + FACE + ", got " + got, got.equals(new HashSet<>(FACE)));
        check.due("modifiers", EntryTree.class.getModifiers(), Modifier.PUBLIC | Modifier.FINAL);
        check.due("constructors", EntryTree.class.getDeclaredConstructors().length, 1);
        check.due("public constructors", EntryTree.class.getConstructors().length, 1);
        check.due("parameters", EntryTree.class.getConstructors()[0].getParameterCount(), 0);
        check.due("public fields", EntryTree.class.getFields().length, 3);
        check.due("NONE", EntryTree.NONE, -1);
        check.due("NOTHING", EntryTree.NOTHING, -2);
        check.due("HIDDEN", EntryTree.HIDDEN, -3);
        check.due("classes inside", EntryTree.class.getDeclaredClasses().length, 0);
    }

    private static boolean isPublicOrPrivate(Member member) {
        return (member.getModifiers() & (Modifier.PUBLIC | Modifier.PRIVATE)) != 0;
    }

    private static void fieldsAreNumbersAndArrays() {
        check.part("fields");
        int held = 0;
        for (Field field : EntryTree.class.getDeclaredFields()) {
            boolean constant = Modifier.isStatic(field.getModifiers());
            held += constant ? 0 : 1;
            check.holds(field + " is public or private", isPublicOrPrivate(field));
            check.holds(field + " is of a type that is left", TYPES.contains(field.getType()));
            if (constant) {
                check.holds(field + " is a constant number", Modifier.isFinal(field.getModifiers())
                    && (field.getType() == int.class || field.getType() == long.class));
            } else {
                check.holds(field + " is private", Modifier.isPrivate(field.getModifiers()));
            }
        }
        check.holds("at most forty fields", held <= 40);
    }

    private static void methodsArePrivateAndNamedApart() {
        check.part("methods");
        Set<String> publicNames = new HashSet<>();
        for (Method method : EntryTree.class.getMethods()) {
            publicNames.add(method.getName());
        }
        for (Method method : EntryTree.class.getDeclaredMethods()) {
            check.holds(method + " is public or private", isPublicOrPrivate(method));
            check.holds(method + " has at most seven parameters", method.getParameterCount() <= 7);
            check.holds(method + " answers no array", !method.getReturnType().isArray());
            if (Modifier.isPrivate(method.getModifiers())) {
                check.holds(method + " has a name of its own", !publicNames.contains(method.getName()));
            }
        }
    }

    private static String withoutComments(String source) {
        return source.replaceAll("//[^\n]*", "").replaceAll("(?s)/\\*.*?\\*/", "");
    }

    private static void wordsThatAreNotUsed(String code) {
        check.part("words");
        for (String word : BANNED) {
            String bounded = Character.isLetter(word.charAt(0)) ? "\\b" + word + (word.endsWith(")") ? "" : "\\b") : word;
            check.holds(word + " is not used", !Pattern.compile(bounded).matcher(code).find());
        }
    }

    private static void arraysAreMadeAtTheStart(String code) {
        check.part("arrays");
        String made = "(int|long|short|byte|char|boolean)\\s*\\[[A-Z0-9_ *+-]+]";
        Matcher making = Pattern.compile("\\bnew\\s+([^;]*)").matcher(code);
        while (making.find()) {
            check.holds("a length that is a constant: " + making.group(), making.group(1).strip().matches(made));
        }
        for (String method : methodsOf(code)) {
            if (!headOf(method).contains("public EntryTree(")) {
                check.holds("no array made in " + headOf(method), !Pattern.compile("\\bnew\\b").matcher(method).find());
            }
        }
    }

    private static void arraysStayInTheirFields(String code) {
        check.part("array fields");
        for (Field field : EntryTree.class.getDeclaredFields()) {
            if (field.getType().isArray()) {
                int times = timesAssigned(code, field.getName());
                check.due(field.getName() + " is made once, and not assigned again", times, 1);
            }
        }
        check.due("seen", timesAssigned("int[] tops = new int[3]; tops = other; tops[0] = 1; if (tops == x)", "tops"), 2);
    }

    private static int timesAssigned(String code, String name) {
        Matcher assigned = Pattern.compile("\\b" + name + "\\s*=(?!=)").matcher(code);
        int times = 0;
        while (assigned.find()) {
            times++;
        }
        return times;
    }

    private static void loopsHaveBounds(String code) {
        check.part("loops");
        Matcher counted = Pattern.compile("\\bfor\\s*\\([^;]*;([^;]*);([^{]*)\\)\\s*\\{").matcher(code);
        while (counted.find()) {
            check.holds("against a bound: " + counted.group(1), counted.group(1).matches("(?s).*[<>].*"));
            check.holds("a counter: " + counted.group(2), counted.group(2).matches("(?s).*(\\+\\+|--|\\+=|-=).*"));
        }
        Matcher other = Pattern.compile("\\bwhile\\s*\\(([^\\n]*)").matcher(code);
        while (other.find()) {
            check.holds("against a bound: " + other.group(1), other.group(1).matches(".*[<>].*"));
        }
    }

    private static void callsStandAlone(String code) {
        check.part("calls");
        List<String> nested = callsInsideCalls(code);
        check.holds("no call inside a call's arguments: " + nested, nested.isEmpty());
        // What the check must see: a name that begins with a keyword, and a bracket between the calls.
        check.due("seen", callsInsideCalls("forget(first(e)); mark((e) + first(e));").size(), 2);
        check.due("fine", callsInsideCalls("if (first(e) && (a || next(e))) { mark((e) + 1); }").size(), 0);
        check.holds("calls go at most six deep", depth(code) <= 6);
    }

    /** Each name with a bracket behind it that stands inside the brackets of another such name. */
    private static List<String> callsInsideCalls(String code) {
        List<String> nested = new ArrayList<>();
        List<Boolean> opened = new ArrayList<>();
        for (int i = 0; i < code.length(); i++) {
            if (code.charAt(i) == '(') {
                String name = nameBefore(code, i);
                boolean isCall = !name.isEmpty() && !WORDS_BEFORE_BRACKETS.contains(name);
                if (isCall && opened.contains(true)) {
                    nested.add(name);
                }
                opened.add(isCall);
            } else if (code.charAt(i) == ')') {
                opened.remove(opened.size() - 1);
            }
        }
        return nested;
    }

    private static String nameBefore(String code, int end) {
        String before = code.substring(0, end).stripTrailing();
        int from = before.length();
        while (from > 0 && Character.isJavaIdentifierPart(before.charAt(from - 1))) {
            from--;
        }
        return before.substring(from);
    }

    /** The methods and the constructor, each from its head to the bracket that ends it. */
    private static List<String> methodsOf(String code) {
        List<String> methods = new ArrayList<>();
        int depth = 0;
        int from = 0;
        for (int i = 0; i < code.length(); i++) {
            char c = code.charAt(i);
            depth += c == '{' ? 1 : c == '}' ? -1 : 0;
            boolean startsMember = c == '{' && depth == 1 || c == ';' && depth == 1;
            if (c == '}' && depth == 1) {
                methods.add(code.substring(from, i + 1).strip());
                startsMember = true;
            }
            from = startsMember ? i + 1 : from;
        }
        return methods;
    }

    private static String headOf(String method) {
        return method.substring(0, method.indexOf('{')).strip();
    }

    private static void methodsAreShort(String code) {
        check.part("short");
        List<String> methods = methodsOf(code);
        check.due("methods seen", methods.size(), EntryTree.class.getDeclaredMethods().length + 1);
        for (String method : methods) {
            check.holds("at most sixty lines: " + headOf(method), method.split("\n").length <= 60);
        }
    }

    /** How many methods stand on one another at most; rounds without end tell recursion. */
    private static int depth(String code) {
        List<String> methods = methodsOf(code);
        List<String> names = new ArrayList<>();
        for (String method : methods) {
            names.add(headOf(method).replaceAll("(?s)\\(.*", "").strip().replaceAll("(?s).*\\s", ""));
        }
        List<Integer> depths = new ArrayList<>(Collections.nCopies(names.size(), 1));
        for (int round = 0; round <= names.size(); round++) {
            for (int caller = 0; caller < names.size(); caller++) {
                String body = methods.get(caller).substring(headOf(methods.get(caller)).length());
                for (int callee = 0; callee < names.size(); callee++) {
                    if (Pattern.compile("\\b" + names.get(callee) + "\\(").matcher(body).find()) {
                        depths.set(caller, Math.max(depths.get(caller), depths.get(callee) + 1));
                    }
                }
            }
        }
        return Collections.max(depths);
    }
}
