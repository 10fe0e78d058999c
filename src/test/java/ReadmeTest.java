import java.io.IOException;
import java.lang.reflect.Method;
import java.lang.reflect.Modifier;
import java.nio.file.DirectoryStream;
import java.nio.file.Files;
import java.nio.file.Path;
import java.util.Arrays;
import java.util.HashSet;
import java.util.Set;
import java.util.regex.Matcher;
import java.util.regex.Pattern;

/** README.md tells the class and its tests as they are. */
public final class ReadmeTest {
    private static final Pattern EXAMPLE_CALL = Pattern.compile("(?m)^sweep\\.(\\w+)\\((.*)\\); +// (-?\\w+)");
    private static final Pattern POINT = Pattern.compile("(\\d+) \\+ 32 \\* (\\d+)");

    public static void main(String[] args) throws ReflectiveOperationException, IOException {
        String readme = Files.readString(Path.of("README.md"));
        exampleAnswersAreDue(readme);
        testsAreNamed(readme);
        Due.end();
    }

    private static void exampleAnswersAreDue(String readme) throws ReflectiveOperationException {
        SegmentSweep sweep = new SegmentSweep();
        Set<String> called = new HashSet<>();
        Matcher call = EXAMPLE_CALL.matcher(readme);
        while (call.find()) {
            called.add(call.group(1));
            Due.is("README: " + call.group(), answer(sweep, call.group(1), call.group(2)), told(call.group(3)));
        }
        for (Method m : SegmentSweep.class.getDeclaredMethods()) {
            if (Modifier.isPublic(m.getModifiers())) {
                Due.is("README: the example calls " + m.getName(), called.contains(m.getName()), true);
            }
        }
    }

    private static int answer(SegmentSweep sweep, String name, String text) throws ReflectiveOperationException {
        String[] parts = text.isEmpty() ? new String[0] : text.split(", ");
        Class<?>[] types = new Class<?>[parts.length];
        Arrays.fill(types, int.class);
        Object[] values = Arrays.stream(parts).map(ReadmeTest::argument).toArray();
        Object got = SegmentSweep.class.getMethod(name, types).invoke(sweep, values);
        return told(got.toString());
    }

    private static int argument(String text) {
        Matcher point = POINT.matcher(text);
        if (point.matches()) {
            return Integer.parseInt(point.group(1)) + 32 * Integer.parseInt(point.group(2));
        }
        return Integer.parseInt(text);
    }

    private static int told(String text) {
        return switch (text) {
            case "true" -> 1;
            case "false" -> 0;
            case "BAD" -> SegmentSweep.BAD;
            case "FULL" -> SegmentSweep.FULL;
            case "REFUSED" -> SegmentSweep.REFUSED;
            default -> Integer.parseInt(text);
        };
    }

    private static void testsAreNamed(String readme) throws IOException {
        try (DirectoryStream<Path> files = Files.newDirectoryStream(Path.of("src/test/java"), "*.java")) {
            for (Path file : files) {
                String name = file.getFileName().toString().replace(".java", "");
                Due.is("README: names " + name, readme.contains("`" + name + "`"), true);
            }
        }
    }
}
