import java.io.IOException;
import java.lang.reflect.InvocationTargetException;
import java.lang.reflect.Method;
import java.lang.reflect.Modifier;
import java.nio.file.Files;
import java.nio.file.Path;
import java.util.List;
import java.util.regex.Matcher;
import java.util.regex.Pattern;
import java.util.stream.Collectors;
import java.util.stream.Stream;

/** README.md tells the truth: each example answers what stands behind it, each call and each test is named. */
public final class ReadmeTest extends Checks {
    private static final Pattern EXAMPLE = Pattern.compile("desk\\.(\\w+)\\((.*)\\);\\s+// (throws \\w+|[-\\w]+): .+");

    public static void main(String[] args) throws IOException {
        List<String> readme = Files.readAllLines(Path.of("README.md"));
        part("README.md, examples");
        askAllExamples(readme);
        part("README.md, names");
        String whole = String.join("\n", readme);
        for (Method method : OrnamentDesk.class.getDeclaredMethods()) {
            if (Modifier.isPublic(method.getModifiers())) {
                yes("a line for " + method.getName(), whole.contains("\n| `" + method.getName() + "("));
            }
        }
        for (String test : namesOfTests()) {
            yes("a line for " + test, whole.contains("`" + test + "`"));
        }
        yes("how to run the tests", whole.contains("\n    .ci/run\n"));
        end();
    }

    private static List<String> namesOfTests() throws IOException {
        try (Stream<Path> files = Files.list(Path.of("src/test/java"))) {
            return files.map(file -> file.getFileName().toString()).filter(name -> name.endsWith("Test.java"))
                .map(name -> name.replace(".java", "")).collect(Collectors.toList());
        }
    }

    private static void askAllExamples(List<String> readme) {
        OrnamentDesk desk = null;
        int asked = 0;
        boolean inside = false;
        for (String line : readme) {
            if (line.startsWith("```")) {
                inside = line.equals("```java");
            } else if (inside && line.equals("OrnamentDesk desk = new OrnamentDesk();")) {
                desk = new OrnamentDesk();
            } else if (inside) {
                Matcher example = EXAMPLE.matcher(line);
                boolean fits = example.matches();
                yes("the form of " + line, fits && desk != null);
                if (fits && desk != null) {
                    tells(line, answer(desk, example.group(1), example.group(2)), example.group(3));
                    asked++;
                }
            }
        }
        yes("there are examples", asked >= 30);
    }

    private static String answer(OrnamentDesk desk, String name, String list) {
        String[] words = list.isEmpty() ? new String[0] : list.split(", ");
        for (Method method : OrnamentDesk.class.getDeclaredMethods()) {
            if (method.getName().equals(name) && method.getParameterCount() == words.length) {
                return invoked(desk, method, words);
            }
        }
        return "no such call";
    }

    private static String invoked(OrnamentDesk desk, Method method, String[] words) {
        Object[] values = new Object[words.length];
        for (int k = 0; k < words.length; k++) {
            values[k] = value(method.getParameterTypes()[k], words[k]);
        }
        try {
            return String.valueOf(method.invoke(desk, values));
        } catch (InvocationTargetException thrown) {
            return "throws " + thrown.getCause().getClass().getSimpleName();
        } catch (IllegalAccessException refused) {
            return "no public call";
        }
    }

    private static Object value(Class<?> type, String word) {
        if (type == boolean.class) {
            return Boolean.valueOf(word);
        }
        if (type == long.class) {
            return Long.decode(word.replace("L", ""));
        }
        return Integer.valueOf(word);
    }
}
