import java.io.IOException;
import java.lang.reflect.Method;
import java.nio.file.Files;
import java.nio.file.Path;
import java.util.List;
import java.util.TreeSet;
import java.util.regex.Matcher;
import java.util.regex.Pattern;
import java.util.stream.Collectors;
import java.util.stream.Stream;

/** README.md tells of the files as they are, and its example answers what it says. */
public final class ReadmeTest {
    private static final Pattern MADE = Pattern.compile("EnclaveMonitor monitor = new EnclaveMonitor\\((\\d+), (\\d+)L\\);");
    private static final Pattern CALL = Pattern.compile("monitor\\.(\\w+)\\(([^)]*)\\); *// (-?\\d+)?.*");
    private static final Pattern FILE = Pattern.compile("`((?:src|\\.ci)/[\\w/.]+)`");
    private static final Check CHECK = new Check();

    private ReadmeTest() {
    }

    public static void main(String[] args) throws IOException, ReflectiveOperationException {
        String text = Files.readString(Path.of("README.md"));
        filesAreThere(text);
        filesAreNamed(text, "src/main/java");
        filesAreNamed(text, "src/test/java");
        filesAreNamed(text, "src/test/support");
        classesAreNamed(text);
        example(text);
        CHECK.end("ReadmeTest");
    }

    private static void filesAreThere(String text) {
        Matcher found = FILE.matcher(text);
        while (found.find()) {
            CHECK.isTrue("there is " + found.group(1), Files.exists(Path.of(found.group(1))));
        }
        CHECK.isTrue("it says how to run the tests", text.contains("\n    .ci/run\n"));
        CHECK.isTrue(".ci/run can be run", Files.isExecutable(Path.of(".ci/run")));
    }

    private static void filesAreNamed(String text, String directory) throws IOException {
        try (Stream<Path> files = Files.list(Path.of(directory))) {
            for (Path file : files.collect(Collectors.toCollection(TreeSet::new))) {
                String path = file.toString().replace('\\', '/');
                CHECK.isTrue("README.md names " + path, text.contains("`" + path + "`"));
            }
        }
    }

    private static void classesAreNamed(String text) {
        for (Class<?> inside : EnclaveMonitor.class.getDeclaredClasses()) {
            String name = inside.getSimpleName();
            CHECK.isTrue("README.md names " + name, text.contains("`" + name + "`"));
        }
    }

    /** A call answers the number behind it; one without a number there answers 0. */
    private static void example(String text) throws ReflectiveOperationException {
        int from = text.indexOf("```java\n") + "```java\n".length();
        List<String> lines = text.substring(from, text.indexOf("```", from)).lines().toList();
        Matcher made = MADE.matcher(lines.get(0));
        CHECK.isTrue("the example begins with a monitor", made.matches());
        EnclaveMonitor x = new EnclaveMonitor(Integer.parseInt(made.group(1)), Long.parseLong(made.group(2)));
        for (String line : lines.subList(1, lines.size())) {
            Matcher call = CALL.matcher(line);
            if (call.matches()) {
                long want = call.group(3) == null ? 0 : Long.parseLong(call.group(3));
                CHECK.due(line, answer(x, call.group(1), call.group(2).split(", ")), want);
            } else {
                CHECK.isTrue("a call: " + line, line.isBlank());
            }
        }
    }

    private static long answer(EnclaveMonitor x, String name, String[] arguments) throws ReflectiveOperationException {
        Object[] numbers = Stream.of(arguments).map(Integer::decode).toArray();
        for (Method method : EnclaveMonitor.class.getMethods()) {
            if (method.getName().equals(name) && method.getParameterCount() == numbers.length) {
                Object got = method.invoke(x, numbers);
                return got == null ? 0 : ((Number) got).longValue();
            }
        }
        throw new IllegalStateException("the example has a call that is not of the face: " + name);
    }
}
