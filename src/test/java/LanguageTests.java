import java.lang.reflect.Constructor;
import java.lang.reflect.Field;
import java.lang.reflect.Method;
import java.lang.reflect.Modifier;
import java.nio.file.Files;
import java.nio.file.Path;
import java.util.Arrays;
import java.util.HashSet;
import java.util.Map;
import java.util.Set;
import java.util.TreeMap;
import java.util.TreeSet;
import java.util.regex.Matcher;
import java.util.regex.Pattern;

/** Looks at the class itself: its public face is the document's, and its text keeps to LANGUAGE.md. */
public final class LanguageTests {
    private static final Path SOURCE = Path.of("src/main/java/ClosureFlow.java");
    private static final String[] FACE = {
        "int put(int, int)", "void clear()", "int setNumber(int, int)", "int solve()", "int compile()", "int run(int)",
        "int stage()", "int look(int, int)", "boolean live(int)", "int flow(int)", "int param(int)", "int site(int)",
        "int form(int)", "int captures(int)", "int report(int, int)", "int called(int, int)"};
    private static final String[] CONSTANTS = {
        "VAR", "NUM", "LAM", "APP", "ADD", "SUB", "IF0", "BAD", "CLOSED", "UNBOUND", "FULL", "DEEP", "MANY", "NOT_READY",
        "INTERPRETER", "COMPILED", "NOT_RUN", "NUMBER", "FUNCTION", "STUCK", "OUT_OF_CALLS", "OUT_OF_CLOSURES",
        "ANY_NUMBER", "NO_CALL", "DEAD", "NEVER", "KNOWN", "CHOICE", "DROPPED", "DIRECT", "SHARED", "MAX_LAMBDAS",
        "MAX_NEST", "MAX_LEVEL"};
    private static final Set<String> NOT_CALLS = Set.of("if", "for", "while", "switch", "return");
    private static final Pattern CALL = Pattern.compile("\\b([A-Za-z]\\w*)\\s*\\(");
    private static final Pattern METHOD = Pattern.compile(
        "(?m)^    (?:public|private)(?: static)? (?:(?:int|long|boolean|void) )?(\\w+)\\(([^)]*)\\) \\{\\n((?:(?!^    \\}$).*\\n)*)");

    private static int wrong = 0;

    private static void check(int rule, String what, boolean holds) {
        if (!holds) {
            wrong++;
            System.out.println("rule " + rule + ": " + what);
        }
    }

    private static void face() {
        Class<?> type = ClosureFlow.class;
        check(1, "the class is public and final", Modifier.isPublic(type.getModifiers()) && Modifier.isFinal(type.getModifiers()));
        check(1, "there is no nested class", type.getDeclaredClasses().length == 0);
        Set<String> methods = new TreeSet<>();
        Set<String> privateNames = new TreeSet<>();
        for (Method m : type.getDeclaredMethods()) {
            if (Modifier.isPrivate(m.getModifiers())) {
                privateNames.add(m.getName());
            } else {
                check(1, m + " is public and not static", Modifier.isPublic(m.getModifiers()) && !Modifier.isStatic(m.getModifiers()));
                String parameters = Arrays.toString(m.getParameterTypes()).replace('[', '(').replace(']', ')');
                methods.add(m.getReturnType() + " " + m.getName() + parameters);
            }
        }
        check(1, "the methods are those of the document", methods.equals(new TreeSet<>(Arrays.asList(FACE))));
        for (String face : FACE) {
            String name = face.substring(face.indexOf(' ') + 1, face.indexOf('('));
            check(1, "no private method is named " + name, !privateNames.contains(name));
        }
        Constructor<?>[] constructors = type.getDeclaredConstructors();
        check(1, "there is one constructor, public, of three ints", constructors.length == 1
            && Modifier.isPublic(constructors[0].getModifiers())
            && Arrays.equals(constructors[0].getParameterTypes(), new Class<?>[] {int.class, int.class, int.class}));
    }

    private static void fields() {
        Set<String> constants = new TreeSet<>();
        int instanceFields = 0;
        for (Field f : ClosureFlow.class.getDeclaredFields()) {
            int modifiers = f.getModifiers();
            if (Modifier.isStatic(modifiers)) {
                check(5, f + " is a constant", Modifier.isFinal(modifiers) && (f.getType() == int.class || f.getType() == long.class));
            } else {
                instanceFields++;
            }
            if (Modifier.isPublic(modifiers)) {
                check(1, f + " is a static int", Modifier.isStatic(modifiers) && f.getType() == int.class);
                constants.add(f.getName());
            } else {
                check(1, f + " is private", Modifier.isPrivate(modifiers));
            }
        }
        check(1, "the constants are those of the document", constants.equals(new TreeSet<>(Arrays.asList(CONSTANTS))));
        check(10, "there are at most 40 fields: " + instanceFields, instanceFields <= 40);
    }

    private static void words(String text) {
        // while and do are allowed, but without them every loop shows its counter and bound in one line.
        String[] banned = {
            "package", "import", "float", "double", "String", "Math", "Integer", "System", "Arrays", "Object", "null",
            "throw", "throws", "try", "catch", "finally", "synchronized", "assert", "instanceof", "interface", "enum",
            "record", "extends", "implements", "protected", "while", "do"};
        for (String word : banned) {
            check(6, "(or 1, 2, 3, 8) '" + word + "' is not used", !Pattern.compile("\\b" + word + "\\b").matcher(text).find());
        }
        check(6, "no lambda and no method reference", !text.contains("->") && !text.contains("::"));
        check(2, "no text and no character", !text.contains("\"") && !text.contains("'"));
        check(7, "nothing is divided", !text.contains("/") && !text.contains("%"));
        Pattern array = Pattern.compile("    private final (int|long|boolean)\\[\\] \\w+ = new \\1\\[[A-Z_]+\\];");
        for (String line : text.split("\n")) {
            check(4, "an array is made in a field's initialiser: " + line,
                !line.contains("new ") || array.matcher(line).matches());
            check(8, "a loop has a counter and a bound: " + line,
                !line.contains("for (") || line.matches(" *for \\(int \\w+ = [^;]+; \\w+ (<|>=) [^;]+; \\w+(\\+\\+|--)\\) \\{"));
        }
    }

    private static void methods(String text) {
        Map<String, Set<String>> calls = new TreeMap<>();
        Matcher method = METHOD.matcher(text);
        while (method.find()) {
            String name = method.group(1);
            String body = method.group(3);
            check(10, name + " is short", body.split("\n").length <= 60);
            check(10, name + " has at most seven parameters", method.group(2).split(",").length <= 7);
            check(10, name + " has no call inside the arguments of another", !nestsCalls(body));
            Set<String> callees = new HashSet<>();
            Matcher call = CALL.matcher(body);
            while (call.find()) {
                if (!NOT_CALLS.contains(call.group(1))) callees.add(call.group(1));
            }
            calls.put(name, callees);
        }
        int declared = ClosureFlow.class.getDeclaredMethods().length + 1;
        check(1, "every method was read: " + calls.size() + " of " + declared, calls.size() == declared);
        for (String name : calls.keySet()) {
            for (String callee : calls.get(name)) check(3, name + " calls " + callee, calls.containsKey(callee));
            int depth = depth(calls, name, 0);
            check(10, name + " goes at most six calls deep: " + depth, depth <= 6);
        }
    }

    private static int depth(Map<String, Set<String>> calls, String name, int above) {
        // Deeper than there are methods means that a method calls itself.
        if (above > calls.size()) return above;
        int deepest = 0;
        for (String callee : calls.getOrDefault(name, Set.of())) deepest = Math.max(deepest, depth(calls, callee, above + 1));
        return deepest + 1;
    }

    private static boolean nestsCalls(String body) {
        Matcher call = CALL.matcher(body);
        for (int from = 0; call.find(from); from = call.end()) {
            if (NOT_CALLS.contains(call.group(1))) continue;
            int open = 1;
            int at = call.end();
            for (; open > 0; at++) open += body.charAt(at) == '(' ? 1 : body.charAt(at) == ')' ? -1 : 0;
            if (CALL.matcher(body.substring(call.end(), at)).find()) return true;
        }
        return false;
    }

    public static void main(String[] args) throws Exception {
        String text = Files.readString(SOURCE).replaceAll("(?s)/\\*.*?\\*/", "").replaceAll("//[^\n]*", "");
        face();
        fields();
        words(text);
        methods(text);
        System.out.println(wrong == 0 ? "the class keeps to its face and its language" : wrong + " faults");
        if (wrong != 0) System.exit(1);
    }
}
