import java.io.IOException;
import java.lang.reflect.InvocationTargetException;
import java.lang.reflect.Method;
import java.nio.file.Files;
import java.nio.file.Path;
import java.util.Set;
import java.util.TreeSet;
import java.util.regex.Matcher;
import java.util.regex.Pattern;
import java.util.stream.Stream;

/** What README.md says is so: its example is played row by row, and the tests it names are those there are. */
public final class ReadmeTest {
    private static final Pattern TEXT = Pattern.compile("for \\(char c : \"([^\"]*)\"\\.toCharArray\\(\\)\\) \\{");
    private static final Pattern ROW = Pattern.compile("x\\.(\\w+)\\(([^)]*)\\); +// (-?\\d+)(:.*)?");
    private static final Check CHECK = new Check();

    private ReadmeTest() { }

    public static void main(String[] args) throws IOException, ReflectiveOperationException {
        String readme = Files.readString(Path.of("README.md"));
        int start = readme.indexOf("```java\n");
        int end = readme.indexOf("```\n", start + 1);
        CHECK.due("an example is there", start >= 0 && end > start ? 1 : 0, 1);
        example(readme.substring(Math.max(0, start), Math.max(0, end)));
        testsThatAreNamed(readme);
        CHECK.end("ReadmeTest");
    }

    private static void example(String example) throws ReflectiveOperationException {
        WordRation x = new WordRation();
        Matcher text = TEXT.matcher(example);
        CHECK.due("a text is fed", text.find() ? 1 : 0, 1);
        for (char letter : text.group(1).toCharArray()) {
            x.feed(letter);
        }
        Set<String> called = new TreeSet<>(Set.of("feed"));
        for (String line : example.substring(text.end()).split("\n")) {
            if (line.startsWith("x.")) {
                Matcher row = ROW.matcher(line);
                CHECK.due("a call and its answer: " + line, row.matches() ? 1 : 0, 1);
                CHECK.due(line, call(x, row.group(1), row.group(2)), Long.parseLong(row.group(3)));
                called.add(row.group(1));
            }
        }
        for (Method method : publicMethods()) {
            CHECK.due("the example shows " + method.getName(), called.contains(method.getName()) ? 1 : 0, 1);
        }
    }

    private static Method[] publicMethods() {
        return Stream.of(WordRation.class.getMethods())
                .filter(method -> method.getDeclaringClass() == WordRation.class).toArray(Method[]::new);
    }

    private static int call(WordRation x, String name, String written) throws ReflectiveOperationException {
        String[] arguments = written.isEmpty() ? new String[0] : written.split(", ");
        for (Method method : publicMethods()) {
            if (method.getName().equals(name) && method.getParameterCount() == arguments.length) {
                return answer(x, method, arguments);
            }
        }
        throw new NoSuchMethodException(name + "(" + written + ")");
    }

    private static int answer(WordRation x, Method method, String[] arguments)
            throws IllegalAccessException, InvocationTargetException {
        Object[] given = new Object[arguments.length];
        for (int i = 0; i < arguments.length; i++) {
            given[i] = method.getParameterTypes()[i] == boolean.class
                    ? (Object) Boolean.valueOf(arguments[i]) : (Object) Integer.valueOf(arguments[i]);
        }
        return (Integer) method.invoke(x, given);
    }

    private static void testsThatAreNamed(String readme) throws IOException {
        Set<String> named = new TreeSet<>();
        Matcher item = Pattern.compile("(?m)^- `(\\w+Test)`:").matcher(readme);
        while (item.find()) {
            named.add(item.group(1));
        }
        Set<String> there = new TreeSet<>();
        try (Stream<Path> files = Files.list(Path.of("src/test/java"))) {
            files.map(file -> file.getFileName().toString()).filter(name -> name.endsWith("Test.java"))
                    .forEach(name -> there.add(name.replace(".java", "")));
        }
        CHECK.due("tests that README.md names, " + named + ", are those there are, " + there, named.equals(there) ? 1 : 0, 1);
        CHECK.due(".ci/run can be run", Files.isExecutable(Path.of(".ci/run")) ? 1 : 0, 1);
    }
}
