import java.io.IOException;
import java.lang.reflect.InvocationTargetException;
import java.lang.reflect.Method;
import java.nio.file.Files;
import java.nio.file.Path;
import java.util.ArrayList;
import java.util.List;
import java.util.Set;
import java.util.TreeSet;
import java.util.regex.Matcher;
import java.util.regex.Pattern;
import java.util.stream.Collectors;
import java.util.stream.Stream;

/** README.md: the calls of its example answer what it says, and it names each call of the face and each test. */
final class ReadmeTest {
    private static final Pattern CALL = Pattern.compile("p\\.(\\w+)\\((.*)\\); +// (?:(-?\\d+)\\b)?.*");
    private static final Check CHECK = new Check("ReadmeTest");

    public static void main(String[] args) throws IOException, ReflectiveOperationException {
        String text = Files.readString(Path.of("README.md"));
        example(text);
        for (Method m : PassPipeline.class.getMethods()) {
            if (m.getDeclaringClass() == PassPipeline.class) {
                CHECK.due("README.md tells of " + m.getName(), 1, text.contains("`" + m.getName() + "(") ? 1 : 0);
            }
        }
        Set<String> there = tests();
        CHECK.due("README.md names the tests " + named(text) + ", and there are " + there, 1,
                named(text).equals(there) ? 1 : 0);
        CHECK.due(".ci/run can be run", 1, Files.isExecutable(Path.of(".ci", "run")) ? 1 : 0);
        CHECK.end();
    }

    private static void example(String text) throws ReflectiveOperationException {
        int begin = text.indexOf("```java\n") + "```java\n".length();
        String[] lines = text.substring(begin, text.indexOf("```", begin)).split("\n");
        CHECK.due("the example begins with a new object", 1,
                lines[0].equals("PassPipeline p = new PassPipeline();") ? 1 : 0);
        PassPipeline p = new PassPipeline();
        for (int i = 1; i < lines.length; i++) {
            Matcher call = CALL.matcher(lines[i]);
            CHECK.due("a call with its answer: " + lines[i], 1, call.matches() ? 1 : 0);
            if (call.matches()) {
                Object answer = ask(p, call.group(1), call.group(2));
                String due = call.group(3) == null ? "null" : call.group(3);
                CHECK.due(lines[i] + " answered " + answer, 1, due.equals(String.valueOf(answer)) ? 1 : 0);
            }
        }
    }

    private static Object ask(PassPipeline p, String name, String written) throws ReflectiveOperationException {
        List<Class<?>> types = new ArrayList<>();
        List<Object> values = new ArrayList<>();
        for (String value : written.isEmpty() ? new String[0] : written.split(", ")) {
            boolean isFlag = value.equals("true") || value.equals("false");
            types.add(isFlag ? boolean.class : int.class);
            values.add(isFlag ? (Object) Boolean.valueOf(value) : Integer.valueOf(value));
        }
        try {
            return PassPipeline.class.getMethod(name, types.toArray(new Class<?>[0])).invoke(p, values.toArray());
        } catch (InvocationTargetException e) {
            return e.getCause();
        }
    }

    private static Set<String> named(String text) {
        return Pattern.compile("`(\\w+Test)`").matcher(text).results().map(found -> found.group(1))
                .collect(Collectors.toCollection(TreeSet::new));
    }

    private static Set<String> tests() throws IOException {
        try (Stream<Path> files = Files.list(Path.of("src", "test", "java"))) {
            return files.map(file -> file.getFileName().toString()).filter(name -> name.endsWith("Test.java"))
                    .map(name -> name.replace(".java", "")).collect(Collectors.toCollection(TreeSet::new));
        }
    }
}
