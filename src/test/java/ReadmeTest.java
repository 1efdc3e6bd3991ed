import java.io.IOException;
import java.lang.reflect.Method;
import java.lang.reflect.Modifier;
import java.nio.file.Files;
import java.nio.file.Path;
import java.util.ArrayList;
import java.util.List;
import java.util.Map;
import java.util.TreeMap;
import java.util.regex.Matcher;
import java.util.regex.Pattern;

/** README.md, in the working folder: its example answers what it says, its table has every call. */
public final class ReadmeTest {
    private static final String FIRST_LINE = "PluginBoundary host = new PluginBoundary();";
    private static final Pattern EXAMPLE_LINE = Pattern.compile("host\\.(\\w+)\\((.*)\\); *// ([-\\w.]+)(: .+)?");
    private static final Pattern TABLE_ROW = Pattern.compile("\\| `(\\w+)\\((.*)\\)` \\|.*");

    private static int wrong = 0;

    public static void main(String[] args) throws IOException, ReflectiveOperationException {
        List<String> readme = Files.readAllLines(Path.of("README.md"));
        playExample(readme);
        compareTable(readme);
        System.out.println(wrong == 0 ? "the README is as due" : wrong + " lines of the README are wrong");
        if (wrong != 0) {
            System.exit(1);
        }
    }

    private static void fail(String message) {
        wrong++;
        System.out.println(message);
    }

    private static Map<String, Method> face() {
        Map<String, Method> face = new TreeMap<>();
        for (Method method : PluginBoundary.class.getDeclaredMethods()) {
            if (Modifier.isPublic(method.getModifiers())) {
                face.put(method.getName(), method);
            }
        }
        return face;
    }

    private static void playExample(List<String> readme) throws ReflectiveOperationException {
        int first = readme.indexOf("```java") + 1;
        int end = first + readme.subList(first, readme.size()).indexOf("```");
        if (first == 0 || end < first + 2 || !readme.get(first).equals(FIRST_LINE)) {
            fail("no example that begins with " + FIRST_LINE);
            return;
        }
        PluginBoundary host = new PluginBoundary();
        for (String line : readme.subList(first + 1, end)) {
            Matcher parts = EXAMPLE_LINE.matcher(line);
            if (!parts.matches()) {
                fail("not a call with its answer: " + line);
                continue;
            }
            double got = answer(host, parts.group(1), parts.group(2));
            if (got != value(parts.group(3))) {
                fail("answered " + got + ": " + line);
            }
        }
    }

    private static double answer(PluginBoundary host, String name, String given) throws ReflectiveOperationException {
        Method method = face().get(name);
        Class<?>[] types = method.getParameterTypes();
        String[] words = given.isEmpty() ? new String[0] : given.split(", ");
        Object[] values = new Object[types.length];
        for (int k = 0; k < types.length; k++) {
            if (types[k] == boolean.class) {
                values[k] = words[k].equals("true");
            } else if (types[k] == double.class) {
                values[k] = Double.valueOf(words[k]);
            } else {
                values[k] = Integer.valueOf(words[k]);
            }
        }
        return ((Number) method.invoke(host, values)).doubleValue();
    }

    private static double value(String word) throws ReflectiveOperationException {
        String owner = "PluginBoundary.";
        if (word.startsWith(owner)) {
            return PluginBoundary.class.getField(word.substring(owner.length())).getInt(null);
        }
        return Double.parseDouble(word);
    }

    private static void compareTable(List<String> readme) {
        Map<String, Method> face = face();
        List<String> told = new ArrayList<>();
        for (String line : readme) {
            Matcher row = TABLE_ROW.matcher(line);
            if (row.matches()) {
                told.add(row.group(1));
                int parameters = row.group(2).isEmpty() ? 0 : row.group(2).split(", ").length;
                Method method = face.get(row.group(1));
                if (method == null || method.getParameterCount() != parameters) {
                    fail("not a call of the face: " + line);
                }
            }
        }
        for (String name : face.keySet()) {
            if (!told.contains(name)) {
                fail("the table lacks " + name);
            }
        }
    }
}
