import java.io.IOException;
import java.lang.reflect.InvocationTargetException;
import java.lang.reflect.Method;
import java.nio.file.Files;
import java.nio.file.Path;
import java.util.Set;
import java.util.TreeSet;
import java.util.regex.Matcher;
import java.util.regex.Pattern;

/**
 * README.md is right: each call of its example answers what stands behind it, and each call of the face is named.
 * The property "readme" is its path, "tests" that of the tests.
 */
public final class ReadmeTest {
    private static final Pattern ROW = Pattern.compile("x\\.(\\w+)\\(([^)]*)\\); +// (-?\\d+).*");

    private static final Due due = new Due();

    public static void main(String[] args) throws Exception {
        String readme = Files.readString(Path.of(System.getProperty("readme")));
        example(readme);
        names(readme);
        tests(readme, Path.of(System.getProperty("tests")));
        due.end("ReadmeTest");
    }

    private static void example(String readme) throws ReflectiveOperationException {
        int from = readme.indexOf("```java\n") + 8;
        HornHouses x = new HornHouses();
        int rows = 0;
        for (String line : readme.substring(from, readme.indexOf("```\n", from)).split("\n")) {
            Matcher row = ROW.matcher(line);
            due.is("a row: " + line, row.matches(), line.startsWith("x."));
            if (row.matches()) {
                due.is(line, answer(x, row.group(1), row.group(2)), Long.parseLong(row.group(3)));
                rows++;
            }
        }
        due.is("rows", rows > 10, true);
    }

    private static long answer(HornHouses x, String name, String told) throws ReflectiveOperationException {
        String[] numbers = told.isEmpty() ? new String[0] : told.split(", ");
        Class<?>[] types = new Class<?>[numbers.length];
        Object[] values = new Object[numbers.length];
        for (int i = 0; i < numbers.length; i++) {
            types[i] = int.class;
            values[i] = Long.decode(numbers[i]).intValue();
        }
        Method call = HornHouses.class.getMethod(name, types);
        try {
            return (Integer) call.invoke(x, values);
        } catch (InvocationTargetException e) {
            throw new IllegalStateException(name + " throws " + e.getCause());
        }
    }

    private static void names(String readme) {
        Set<String> named = quoted(readme);
        for (Method call : HornHouses.class.getDeclaredMethods()) {
            if (java.lang.reflect.Modifier.isPublic(call.getModifiers())) {
                due.is("names " + call.getName(), named.contains(call.getName()), true);
            }
        }
    }

    private static void tests(String readme, Path tests) throws IOException {
        Set<String> named = quoted(readme);
        try (var all = Files.list(tests)) {
            for (Path test : (Iterable<Path>) all::iterator) {
                String name = test.getFileName().toString().replace(".java", "");
                if (name.endsWith("Test")) {
                    due.is("names " + name, named.contains(name), true);
                }
            }
        }
    }

    private static Set<String> quoted(String readme) {
        Set<String> found = new TreeSet<>();
        Matcher name = Pattern.compile("`(\\w+)`").matcher(readme);
        while (name.find()) {
            found.add(name.group(1));
        }
        return found;
    }
}
