import java.io.IOException;
import java.lang.reflect.Method;
import java.lang.reflect.Modifier;
import java.nio.file.Files;
import java.nio.file.Path;
import java.util.HashMap;
import java.util.Map;
import java.util.regex.Matcher;
import java.util.regex.Pattern;

/** What README.md says: its example answers as told there, and its table names every call. */
public final class ReadmeTest {
    private static final Due due = new Due("ReadmeTest");
    private static final Pattern ROW = Pattern.compile("int (\\w+) = bag\\.(\\w+)\\((.*?)\\); +// (-?\\d+):.*");

    public static void main(String[] args) throws ReflectiveOperationException, IOException {
        Path root = Path.of(args[0]).toAbsolutePath().normalize().getParent().getParent().getParent().getParent();
        String readme = Files.readString(root.resolve("README.md"));
        example(between(readme, "```java\n", "```"));
        table(between(readme, "### The calls", "### What calls answer"));
        errors(between(readme, "### What calls answer", "## How it is made"));
        tests(between(readme, "## How to run its tests", "\u0000"), root);
        due.end();
    }

    private static String between(String text, String begin, String end) {
        int from = text.indexOf(begin);
        if (from < 0) {
            due.fault("README.md has no " + begin);
            return "";
        }
        int to = text.indexOf(end, from + begin.length());
        return text.substring(from + begin.length(), to < 0 ? text.length() : to);
    }

    private static void example(String rows) throws ReflectiveOperationException {
        BagBottom bag = new BagBottom();
        Map<String, Integer> known = new HashMap<>();
        int asked = 0;
        for (String line : rows.split("\n")) {
            Matcher row = ROW.matcher(line);
            if (row.matches()) {
                int answer = called(bag, row.group(2), row.group(3), known);
                known.put(row.group(1), answer);
                due.is(line, answer, Long.parseLong(row.group(4)));
                asked++;
            } else {
                due.is(line + " makes the object", line.equals("BagBottom bag = new BagBottom();") ? 1 : 0, 1);
            }
        }
        due.is("rows of the example", asked > 0 ? 1 : 0, 1);
    }

    private static int called(BagBottom bag, String name, String written, Map<String, Integer> known)
            throws ReflectiveOperationException {
        Method call = method(name);
        String[] words = written.isEmpty() ? new String[0] : written.split(", ");
        Object[] arguments = new Object[words.length];
        for (int i = 0; i < words.length; i++) {
            long value = known.containsKey(words[i]) ? known.get(words[i]) : Long.decode(words[i].replace("L", ""));
            if (call.getParameterTypes()[i] == long.class) {
                arguments[i] = value;
            } else {
                arguments[i] = (int) value;
            }
        }
        return (Integer) call.invoke(bag, arguments);
    }

    private static Method method(String name) throws NoSuchMethodException {
        for (Method method : BagBottom.class.getDeclaredMethods()) {
            if (method.getName().equals(name) && Modifier.isPublic(method.getModifiers())) {
                return method;
            }
        }
        throw new NoSuchMethodException(name);
    }

    private static void table(String rows) {
        for (Method method : BagBottom.class.getDeclaredMethods()) {
            if (Modifier.isPublic(method.getModifiers())) {
                due.is(method.getName() + " in the table", rows.contains("`" + method.getName() + "`") ? 1 : 0, 1);
            }
        }
    }

    private static void errors(String rows) {
        String[] names = {"BEYOND", "NONE", "STATE", "FULL", "KIND", "PARTED"};
        for (int k = 1; k <= names.length; k++) {
            String row = "| " + k + " | " + (Due.LOW - k) + " | " + names[k - 1] + " |";
            due.is("the row " + row, rows.contains(row) ? 1 : 0, 1);
        }
    }

    private static void tests(String rows, Path root) throws IOException {
        try (var files = Files.list(root.resolve("src/test/java"))) {
            for (Path file : (Iterable<Path>) files::iterator) {
                String name = file.getFileName().toString().replace(".java", "");
                if (name.endsWith("Test")) {
                    due.is(name + " is told of", rows.contains("`" + name + "`") ? 1 : 0, 1);
                }
            }
        }
    }
}
