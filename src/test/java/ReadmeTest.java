import java.io.IOException;
import java.lang.reflect.Field;
import java.lang.reflect.Method;
import java.lang.reflect.Modifier;
import java.nio.file.Files;
import java.nio.file.Path;
import java.util.List;
import java.util.TreeSet;
import java.util.regex.Matcher;
import java.util.regex.Pattern;

/**
 * README.md, read from the project's folder: the calls that it shows give the answers that it says, and its table of
 * calls and its constants are those of the class. The file is read, not copied here, so that the two can't part.
 */
public final class ReadmeTest {
    private static final String INTS = "((?:-?\\d+(?:, -?\\d+)*)?)";
    private static final Pattern MAKING =
        Pattern.compile("ProbeDeadlock x = new ProbeDeadlock\\(" + INTS + "\\);(?: +// .*)?");
    private static final Pattern CALL = Pattern.compile("x\\.(\\w+)\\(" + INTS + "\\); +// (-?\\w+)(?:: .*)?");
    private static final Pattern ROW = Pattern.compile("\\| `(\\w+)\\(([^)]*)\\)` \\|.*");
    private static final Pattern CONSTANT = Pattern.compile("`([A-Z_]+)` = (-?\\d+)");

    public static void main(String[] args) throws IOException, ReflectiveOperationException {
        List<String> lines = Files.readAllLines(Path.of("README.md"));
        Due.is("calls that no example shows", missingFrom(runExamples(lines)).toString(), "[]");
        Due.is("README.md's table", table(lines).toString(), methods().toString());
        Due.is("README.md's constants", constantsIn(lines).toString(), constants().toString());
        Due.end();
    }

    /** Runs each block of Java, on an object of its own, and answers the names of the methods called. */
    private static TreeSet<String> runExamples(List<String> lines) throws ReflectiveOperationException {
        TreeSet<String> called = new TreeSet<>();
        boolean inside = false;
        ProbeDeadlock x = null;
        for (String line : lines) {
            Matcher making = MAKING.matcher(line);
            Matcher call = CALL.matcher(line);
            if (line.startsWith("```")) {
                inside = line.equals("```java");
                x = null;
            } else if (inside && x == null && making.matches()) {
                int[] sizes = ints(making.group(1));
                x = new ProbeDeadlock(sizes[0], sizes[1], sizes[2]);
            } else if (inside && x != null && call.matches()) {
                called.add(call.group(1));
                Due.is("README.md: " + line, answer(x, call.group(1), ints(call.group(2))), due(call.group(3)));
            } else if (inside) {
                Due.is("README.md: a line of an example that is no call with its answer", line, "");
            }
        }
        Due.is("README.md: the last block is closed", !inside, true);
        return called;
    }

    private static int[] ints(String list) {
        if (list.isEmpty()) {
            return new int[0];
        }
        String[] parts = list.split(", ");
        int[] numbers = new int[parts.length];
        for (int i = 0; i < parts.length; i++) {
            numbers[i] = Integer.parseInt(parts[i]);
        }
        return numbers;
    }

    private static String answer(ProbeDeadlock x, String name, int[] arguments) throws ReflectiveOperationException {
        Class<?>[] types = new Class<?>[arguments.length];
        Object[] values = new Object[arguments.length];
        for (int i = 0; i < arguments.length; i++) {
            types[i] = int.class;
            values[i] = arguments[i];
        }
        return ProbeDeadlock.class.getMethod(name, types).invoke(x, values).toString();
    }

    /** A number or a truth value stands for itself, a name for the constant of that name. */
    private static String due(String word) throws ReflectiveOperationException {
        if (Character.isUpperCase(word.charAt(0))) {
            return ProbeDeadlock.class.getField(word).get(null).toString();
        }
        return word;
    }

    private static TreeSet<String> missingFrom(TreeSet<String> called) {
        TreeSet<String> missing = new TreeSet<>();
        for (Method method : ProbeDeadlock.class.getDeclaredMethods()) {
            if (Modifier.isPublic(method.getModifiers()) && !called.contains(method.getName())) {
                missing.add(method.getName());
            }
        }
        return missing;
    }

    private static TreeSet<String> table(List<String> lines) {
        TreeSet<String> found = new TreeSet<>();
        for (String line : lines) {
            Matcher row = ROW.matcher(line);
            if (row.matches()) {
                int parameters = row.group(2).isEmpty() ? 0 : row.group(2).split(", ").length;
                found.add(row.group(1) + " with " + parameters);
            }
        }
        return found;
    }

    private static TreeSet<String> methods() {
        TreeSet<String> found = new TreeSet<>();
        for (Method method : ProbeDeadlock.class.getDeclaredMethods()) {
            if (Modifier.isPublic(method.getModifiers())) {
                found.add(method.getName() + " with " + method.getParameterCount());
            }
        }
        return found;
    }

    private static TreeSet<String> constantsIn(List<String> lines) {
        TreeSet<String> found = new TreeSet<>();
        for (String line : lines) {
            Matcher constant = CONSTANT.matcher(line);
            while (constant.find()) {
                found.add(constant.group(1) + "=" + constant.group(2));
            }
        }
        return found;
    }

    private static TreeSet<String> constants() throws IllegalAccessException {
        TreeSet<String> found = new TreeSet<>();
        for (Field field : ProbeDeadlock.class.getDeclaredFields()) {
            if (Modifier.isPublic(field.getModifiers())) {
                found.add(field.getName() + "=" + field.getInt(null));
            }
        }
        return found;
    }
}
