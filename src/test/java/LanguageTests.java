import java.lang.reflect.Constructor;
import java.lang.reflect.Field;
import java.lang.reflect.Method;
import java.lang.reflect.Modifier;
import java.nio.file.Files;
import java.nio.file.Path;
import java.util.Arrays;
import java.util.HashSet;
import java.util.Map;
import java.util.Set;
import java.util.TreeMap;
import java.util.TreeSet;
import java.util.regex.Matcher;
import java.util.regex.Pattern;

/** Looks at the class itself: its public face is the document's, and its text keeps to LANGUAGE.md. */
public final class LanguageTests {
    private static final Path SOURCE = Path.of("src/main/java/ClosureFlow.java");
    private static final String[] FACE = {
        "int put(int, int)", "void clear()", "int setNumber(int, int)", "int solve()", "int compile()", "int run(int)",
        "int stage()", "int look(int, int)", "boolean live(int)", "int flow(int)", "int param(int)", "int site(int)",
        "int form(int)", "int captures(int)", "int report(int, int)", "int called(int, int)"};
    private static final String[] CONSTANTS = {
        "VAR", "NUM", "LAM", "APP", "ADD", "SUB", "IF0", "BAD", "CLOSED", "UNBOUND", "FULL", "DEEP", "MANY", "NOT_READY",
        "INTERPRETER", "COMPILED", "NOT_RUN", "NUMBER", "FUNCTION", "STUCK", "OUT_OF_CALLS", "OUT_OF_CLOSURES",
        "ANY_NUMBER", "NO_CALL", "DEAD", "NEVER", "KNOWN", "CHOICE", "DROPPED", "DIRECT", "SHARED", "MAX_LAMBDAS",
        "MAX_NEST", "MAX_LEVEL"};
    private static final Set<String> NOT_CALLS = Set.of("if", "for", "while", "switch", "return");
    private static final Pattern CALL = Pattern.compile("\\b([A-Za-z]\\w*)\\s*\\(");
    private static final Pattern HEAD = Pattern.compile("(\\w+)\\s*\\(([^()]*)\\)\\s*$");
    // The rules say "some sixty lines" and "some forty fields": a little more is not yet a fault.
    private static final int MOST_LINES = 66, MOST_FIELDS = 44;
    // The public method, and six calls from there.
    private static final int MOST_DEPTH = 7;

    private static int wrong = 0;

    private static void check(int rule, String what, boolean holds) {
        if (!holds) {
            wrong++;
            System.out.println("rule " + rule + ": " + what);
        }
    }

    private static void face() {
        Class<?> type = ClosureFlow.class;
        int kind = type.getModifiers();
        check(1, "the class is public and final", Modifier.isPublic(kind) && Modifier.isFinal(kind));
        check(1, "there is no nested class", type.getDeclaredClasses().length == 0);
        Set<String> methods = new TreeSet<>();
        Set<String> privateNames = new TreeSet<>();
        for (Method m : type.getDeclaredMethods()) {
            if (Modifier.isPrivate(m.getModifiers())) {
                privateNames.add(m.getName());
            } else {
                int modifiers = m.getModifiers();
                check(1, m + " is public and not static", Modifier.isPublic(modifiers) && !Modifier.isStatic(modifiers));
                String parameters = Arrays.toString(m.getParameterTypes()).replace('[', '(').replace(']', ')');
                methods.add(m.getReturnType() + " " + m.getName() + parameters);
            }
        }
        check(1, "the methods are those of the document", methods.equals(new TreeSet<>(Arrays.asList(FACE))));
        for (String face : FACE) {
            String name = face.substring(face.indexOf(' ') + 1, face.indexOf('('));
            check(1, "no private method is named " + name, !privateNames.contains(name));
        }
        Constructor<?>[] constructors = type.getDeclaredConstructors();
        check(1, "there is one constructor, public, of three ints", constructors.length == 1
            && Modifier.isPublic(constructors[0].getModifiers())
            && Arrays.equals(constructors[0].getParameterTypes(), new Class<?>[] {int.class, int.class, int.class}));
    }

    private static void fields() {
        Set<String> constants = new TreeSet<>();
        int instanceFields = 0;
        for (Field f : ClosureFlow.class.getDeclaredFields()) {
            int modifiers = f.getModifiers();
            if (Modifier.isStatic(modifiers)) {
                boolean isWhole = f.getType() == int.class || f.getType() == long.class;
                check(5, f + " is a constant", Modifier.isFinal(modifiers) && isWhole);
            } else {
                instanceFields++;
            }
            if (Modifier.isPublic(modifiers)) {
                check(1, f + " is a static int", Modifier.isStatic(modifiers) && f.getType() == int.class);
                constants.add(f.getName());
            } else {
                check(1, f + " is private", Modifier.isPrivate(modifiers));
            }
        }
        check(1, "the constants are those of the document", constants.equals(new TreeSet<>(Arrays.asList(CONSTANTS))));
        check(10, "there are at most some forty fields: " + instanceFields, instanceFields <= MOST_FIELDS);
    }

    private static void words(String text) {
        String[] banned = {
            "package", "import", "float", "double", "String", "Math", "Integer", "System", "Arrays", "Object", "null",
            "throw", "throws", "try", "catch", "finally", "synchronized", "assert", "instanceof", "interface", "enum",
            "record", "extends", "implements", "protected", "volatile", "native"};
        for (String word : banned) {
            check(6, "(or 1, 2, 3) '" + word + "' is not used", !Pattern.compile("\\b" + word + "\\b").matcher(text).find());
        }
        check(6, "no lambda and no method reference", !text.contains("->") && !text.contains("::"));
        check(2, "no text", !text.contains("\""));
        check(2, "no array of arrays", !text.replaceAll("\\s", "").contains("[][]"));
        Pattern endless = Pattern.compile("while\\s*\\(\\s*true|for\\s*\\([^;]*;\\s*;");
        check(8, "no loop without a bound", !endless.matcher(text).find());
        for (Matcher made = Pattern.compile("\\bnew\\b[^;]*").matcher(text); made.find(); ) {
            check(4, "an array has a constant length: " + made.group(),
                made.group().matches("new (int|long|short|byte|char|boolean)\\s*\\[[A-Z_0-9+* ()-]+\\]"));
        }
    }

    /** The bodies of all methods and of the constructor by their names, found by counting braces. */
    private static Map<String, String> bodies(String text) {
        Map<String, String> bodies = new TreeMap<>();
        int depth = 0;
        int memberStart = 0;
        int bodyStart = 0;
        for (int at = 0; at < text.length(); at++) {
            char c = text.charAt(at);
            if (c == '{') {
                depth++;
                if (depth == 2) bodyStart = at + 1;
            } else if (c == '}') {
                depth--;
                if (depth == 1) addMethod(bodies, text.substring(memberStart, bodyStart - 1), text.substring(bodyStart, at));
            }
            if (depth == 1 && (c == ';' || c == '{' || c == '}')) memberStart = at + 1;
        }
        return bodies;
    }

    private static void addMethod(Map<String, String> bodies, String head, String body) {
        Matcher found = HEAD.matcher(head.strip());
        boolean isMethod = found.find();
        check(1, "this is a method: " + head.strip(), isMethod);
        if (!isMethod) return;
        String name = found.group(1);
        check(10, name + " has at most seven parameters", found.group(2).split(",").length <= 7);
        check(10, name + " is short", body.strip().split("\n").length <= MOST_LINES);
        check(10, name + " has no call inside the arguments of another", !nestsCalls(body));
        check(4, name + " makes nothing", name.equals("ClosureFlow") || !Pattern.compile("\\bnew\\b").matcher(body).find());
        bodies.merge(name, body, (one, other) -> one + other);
    }

    private static void methods(String text) {
        Map<String, Set<String>> calls = new TreeMap<>();
        bodies(text).forEach((name, body) -> {
            Set<String> callees = new HashSet<>();
            for (Matcher call = CALL.matcher(body); call.find(); ) {
                if (!NOT_CALLS.contains(call.group(1))) callees.add(call.group(1));
            }
            calls.put(name, callees);
        });
        for (Method m : ClosureFlow.class.getDeclaredMethods()) {
            check(1, m.getName() + " was read", calls.containsKey(m.getName()));
        }
        Map<String, Integer> depths = depths(calls);
        for (String name : calls.keySet()) {
            for (String callee : calls.get(name)) check(3, name + " calls " + callee, calls.containsKey(callee));
            int depth = depths.get(name);
            check(8, name + " is not recursive", depth <= calls.size());
            check(10, name + " goes at most six calls deep: " + depth, depth <= MOST_DEPTH);
        }
    }

    /** How many methods a call of each can have under way at once; without an end where there is recursion. */
    private static Map<String, Integer> depths(Map<String, Set<String>> calls) {
        Map<String, Integer> depths = new TreeMap<>();
        // Without recursion no chain is longer than the number of methods, so nothing grows in the last round.
        for (int round = 0; round <= calls.size(); round++) {
            for (String name : calls.keySet()) {
                int deepest = 0;
                for (String callee : calls.get(name)) deepest = Math.max(deepest, depths.getOrDefault(callee, 0));
                depths.put(name, deepest + 1);
            }
        }
        return depths;
    }

    private static boolean nestsCalls(String body) {
        Matcher call = CALL.matcher(body);
        for (int from = 0; call.find(from); from = call.end()) {
            if (NOT_CALLS.contains(call.group(1))) continue;
            int open = 1;
            int at = call.end();
            for (; open > 0; at++) open += body.charAt(at) == '(' ? 1 : body.charAt(at) == ')' ? -1 : 0;
            if (CALL.matcher(body.substring(call.end(), at)).find()) return true;
        }
        return false;
    }

    public static void main(String[] args) throws Exception {
        String text = Files.readString(SOURCE).replaceAll("(?s)/\\*.*?\\*/", "").replaceAll("//[^\n]*", "")
            .replaceAll("'.'", "0");
        face();
        fields();
        words(text);
        methods(text);
        System.out.println(wrong == 0 ? "the class keeps to its face and its language" : wrong + " faults");
        if (wrong != 0) System.exit(1);
    }
}
