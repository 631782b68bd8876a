import java.lang.reflect.Method;
import java.lang.reflect.Modifier;
import java.nio.file.Files;
import java.nio.file.Path;
import java.util.Arrays;
import java.util.regex.Matcher;
import java.util.regex.Pattern;
import java.util.stream.Stream;

/** README.md's example answers as it says, and the page leaves out no call of the face and no test of the project. */
public final class TestReadme {
    private static final Pattern CALL = Pattern.compile("x\\.(\\w+)\\(([^)]*)\\);(?: +// (-?\\d+)\\b.*| +// \".*)?");

    public static void main(String[] args) throws Exception {
        String readme = Files.readString(Path.of("README.md"));
        example(readme);
        everyTestIsTold(readme);
        everyCallIsTold(readme);
        Check.end();
    }

    private static void example(String readme) throws Exception {
        JawBench x = new JawBench();
        int answers = 0;
        for (String line : readme.lines().filter(l -> l.startsWith("x.")).toList()) {
            Matcher call = CALL.matcher(line);
            boolean isCall = call.matches();
            Check.due("can be read: " + line, true, isCall);
            if (!isCall) {
                continue;
            }
            Object[] numbers = Arrays.stream(call.group(2).split(", *")).map(Integer::decode).toArray();
            Object got = method(call.group(1)).invoke(x, numbers);
            if (call.group(3) != null) {
                Check.due(line, Long.parseLong(call.group(3)), ((Number) got).longValue());
                answers++;
            }
        }
        Check.due("answers in the example", true, answers >= 5);
    }

    private static Method method(String name) {
        return Arrays.stream(JawBench.class.getMethods()).filter(m -> m.getName().equals(name)).findFirst().orElseThrow();
    }

    private static void everyTestIsTold(String readme) throws Exception {
        try (Stream<Path> files = Files.list(Path.of("src/test/java"))) {
            for (Path file : files.filter(f -> f.getFileName().toString().startsWith("Test")).sorted().toList()) {
                String name = file.getFileName().toString().replace(".java", "");
                Check.due("README.md tells of " + name, true, readme.contains("`" + name + "`"));
            }
        }
    }

    private static void everyCallIsTold(String readme) {
        for (Method m : JawBench.class.getDeclaredMethods()) {
            if (Modifier.isPublic(m.getModifiers())) {
                Check.due("README.md tells of " + m.getName(), true, readme.contains("`" + m.getName() + "`"));
            }
        }
    }
}
