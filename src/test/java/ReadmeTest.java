import java.io.IOException;
import java.lang.reflect.Method;
import java.lang.reflect.Modifier;
import java.nio.file.Files;
import java.nio.file.Path;
import java.util.HashMap;
import java.util.List;
import java.util.Map;
import java.util.TreeSet;
import java.util.regex.Matcher;
import java.util.regex.Pattern;
import java.util.stream.Stream;

/** README.md shows each call of the face with the answer that it gives, and names each test. */
public final class ReadmeTest {
    private static final Path README = Path.of("README.md");
    private static final Path TESTS = Path.of("src/test/java");

    // A name for the answer, the call, its arguments, and the answer told behind it.
    private static final Pattern CALL =
            Pattern.compile("(?:int (\\w) = )?lodge\\.(\\w+)\\((.*)\\);\\s+// ([^:]+): .+");

    private static final Check check = new Check();

    public static void main(String[] args) throws IOException, ReflectiveOperationException {
        String text = Files.readString(README);
        example(calls(text));
        tests(text);
        check.due("it says how the tests are run", true, () -> text.contains("bash .ci/run"));
        check.end("ReadmeTest");
    }

    private static List<String> calls(String text) {
        String[] parts = text.split("```java\n|```\n");
        check.due("it has an example", true, () -> parts.length > 1);
        String example = parts.length > 1 ? parts[1] : "";
        return example.lines().filter(line -> line.contains("lodge.")).toList();
    }

    private static void example(List<String> lines) throws ReflectiveOperationException {
        Map<String, Method> face = face();
        TreeSet<String> left = new TreeSet<>(face.keySet());
        Map<String, String> names = new HashMap<>();
        LodgeProofs lodge = new LodgeProofs();
        for (String line : lines) {
            Matcher call = CALL.matcher(line);
            boolean fits = call.matches() && face.containsKey(call.group(2));
            check.due("a call of the face and its answer: " + line, true, () -> fits);
            if (fits) {
                Method method = face.get(call.group(2));
                Object got = method.invoke(lodge, arguments(method, call.group(3), names));
                check.due(line, call.group(4), got::toString);
                names.put(call.group(1), got.toString());
                left.remove(call.group(2));
            }
        }
        check.due("calls that are not shown", "[]", left::toString);
    }

    private static Map<String, Method> face() {
        Map<String, Method> face = new HashMap<>();
        for (Method method : LodgeProofs.class.getDeclaredMethods()) {
            if (Modifier.isPublic(method.getModifiers())) {
                face.put(method.getName(), method);
            }
        }
        return face;
    }

    private static Object[] arguments(Method method, String told, Map<String, String> names) {
        String[] texts = told.isEmpty() ? new String[0] : told.split(", ");
        Object[] arguments = new Object[texts.length];
        for (int i = 0; i < texts.length; i++) {
            String text = names.getOrDefault(texts[i], texts[i]);
            boolean isNumber = method.getParameterTypes()[i] == int.class;
            arguments[i] = isNumber ? (Object) Integer.valueOf(text) : Boolean.valueOf(text);
        }
        return arguments;
    }

    private static void tests(String text) throws IOException {
        try (Stream<Path> files = Files.list(TESTS)) {
            for (Path file : files.sorted().toList()) {
                String name = file.getFileName().toString().replace(".java", "");
                if (name.endsWith("Test")) {
                    check.due("it names " + name, true, () -> text.contains("`" + name + "`"));
                }
            }
        }
    }
}
