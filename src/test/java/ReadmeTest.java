import java.io.IOException;
import java.lang.reflect.Field;
import java.lang.reflect.Method;
import java.lang.reflect.Modifier;
import java.nio.file.Files;
import java.nio.file.Path;
import java.util.List;
import java.util.Set;
import java.util.TreeSet;
import java.util.regex.Matcher;
import java.util.regex.Pattern;

// README.md tells the truth: its example answers what the comments say, and each call and constant
// of the public face is told. Run from the project's folder, as .ci/run does.
public final class ReadmeTest {
    private static final Pattern ROW = Pattern.compile("x\\.(\\w+)\\((.*)\\);\\s+// (\\w+).*");

    private static int wrong = 0;

    private static void tell(String what) {
        wrong++;
        System.out.println("README.md: " + what);
    }

    private static int number(String text) {
        return text.startsWith("0b") ? Integer.parseInt(text.substring(2), 2) : Integer.parseInt(text);
    }

    private static Method method(String name) {
        for (Method m : CycleBasis.class.getDeclaredMethods()) {
            if (m.getName().equals(name) && Modifier.isPublic(m.getModifiers())) {
                return m;
            }
        }
        throw new IllegalArgumentException("README.md: there is no method " + name);
    }

    private static String due(String text) throws ReflectiveOperationException {
        boolean isConstant = text.matches("[A-Z_]+");
        return isConstant ? String.valueOf(CycleBasis.class.getField(text).get(null)) : text;
    }

    private static void row(CycleBasis x, Matcher row) throws ReflectiveOperationException {
        String list = row.group(2);
        String[] words = list.isEmpty() ? new String[0] : list.split(", ");
        Object[] arguments = new Object[words.length];
        for (int k = 0; k < words.length; k++) {
            arguments[k] = number(words[k]);
        }
        String got = String.valueOf(method(row.group(1)).invoke(x, arguments));
        if (!got.equals(due(row.group(3)))) {
            tell(row.group() + " | answered " + got);
        }
    }

    private static Set<String> example(List<String> lines) throws ReflectiveOperationException {
        CycleBasis x = new CycleBasis();
        Set<String> called = new TreeSet<>();
        int from = lines.indexOf("```java");
        int to = lines.indexOf("```");
        if (from < 0 || to < from || !lines.get(from + 1).equals("CycleBasis x = new CycleBasis();")) {
            tell("there is no example");
            return called;
        }
        for (String line : lines.subList(from + 2, to)) {
            Matcher row = ROW.matcher(line);
            if (row.matches()) {
                row(x, row);
                called.add(row.group(1));
            } else {
                tell("a row of the example can't be read: " + line);
            }
        }
        return called;
    }

    private static void tellsTheFace(List<String> lines, Set<String> called) throws ReflectiveOperationException {
        String text = String.join("\n", lines);
        for (Method m : CycleBasis.class.getDeclaredMethods()) {
            if (Modifier.isPublic(m.getModifiers())) {
                if (!called.contains(m.getName())) {
                    tell("the example has no call of " + m.getName());
                }
                if (!text.contains("| `" + m.getName() + "(")) {
                    tell("no table has a row for " + m.getName());
                }
            }
        }
        for (Field f : CycleBasis.class.getFields()) {
            if (!text.contains("`" + f.getName() + "` (" + f.get(null) + ")")) {
                tell("the constant " + f.getName() + " isn't told with its value");
            }
        }
    }

    public static void main(String[] args) throws IOException, ReflectiveOperationException {
        List<String> lines = Files.readAllLines(Path.of("README.md"));
        Set<String> called = example(lines);
        tellsTheFace(lines, called);
        if (wrong != 0) {
            System.exit(1);
        }
    }
}
