import java.lang.reflect.Field;
import java.lang.reflect.Method;
import java.lang.reflect.Modifier;
import java.nio.file.Files;
import java.nio.file.Path;
import java.util.ArrayList;
import java.util.List;
import java.util.regex.Matcher;
import java.util.regex.Pattern;

/**
 * Holds README.md to the class: plays the example line by line, where the answer that is due stands first
 * in the comment, and looks for every public method and constant on the page.
 */
public final class ReadmeTests {
    private static final Pattern EXAMPLE = Pattern.compile("(?s)```java\n(.*?)```");
    private static final Pattern NEW = Pattern.compile("ClosureFlow x = new ClosureFlow\\((.*)\\);");
    private static final Pattern CALL = Pattern.compile("x\\.(\\w+)\\((.*?)\\);(?:\\s*// (-?\\w+).*)?");

    private static int wrong = 0;
    private static int answers = 0;
    private static ClosureFlow x = null;

    private static void fault(String what) {
        wrong++;
        System.out.println(what);
    }

    private static int number(String word) throws Exception {
        if (word.matches("-?\\d+")) return Integer.parseInt(word);
        return ClosureFlow.class.getField(word.replace("ClosureFlow.", "")).getInt(null);
    }

    private static Object[] arguments(String list) throws Exception {
        List<Object> all = new ArrayList<>();
        for (String word : list.split(", *")) if (!word.isEmpty()) all.add(number(word));
        return all.toArray();
    }

    private static Method method(String name) {
        for (Method m : ClosureFlow.class.getMethods()) if (m.getName().equals(name)) return m;
        throw new IllegalArgumentException("README.md calls " + name);
    }

    private static void play(String line) throws Exception {
        Matcher made = NEW.matcher(line);
        Matcher call = CALL.matcher(line);
        if (made.matches()) {
            Object[] limits = arguments(made.group(1));
            x = new ClosureFlow((int) limits[0], (int) limits[1], (int) limits[2]);
        } else if (call.matches()) {
            Object got = method(call.group(1)).invoke(x, arguments(call.group(2)));
            answers++;
            Object due = call.group(3) == null ? null : number(call.group(3));
            if (got == null ? due != null : !got.equals(due)) fault(line + " answered " + got);
        } else {
            fault("this line of the example is not understood: " + line);
        }
    }

    private static void names(String page) {
        for (Method m : ClosureFlow.class.getDeclaredMethods()) {
            boolean isNamed = page.contains("`" + m.getName() + "(");
            if (Modifier.isPublic(m.getModifiers()) && !isNamed) fault("README.md does not tell of " + m.getName());
        }
        for (Field f : ClosureFlow.class.getFields()) {
            boolean isNamed = page.contains("`" + f.getName() + "`");
            if (!isNamed) fault("README.md does not tell of " + f.getName());
        }
    }

    public static void main(String[] args) throws Exception {
        String page = Files.readString(Path.of("README.md"));
        Matcher example = EXAMPLE.matcher(page);
        if (example.find()) {
            for (String line : example.group(1).split("\n")) play(line);
        }
        if (answers == 0) fault("README.md has no example");
        names(page);
        System.out.println(wrong == 0 ? "README.md tells the truth in " + answers + " answers" : wrong + " faults");
        if (wrong != 0) System.exit(1);
    }
}
