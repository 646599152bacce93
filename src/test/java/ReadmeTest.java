import java.io.IOException;
import java.lang.reflect.InvocationTargetException;
import java.lang.reflect.Method;
import java.lang.reflect.Modifier;
import java.nio.file.Files;
import java.nio.file.Path;
import java.util.ArrayList;
import java.util.Arrays;
import java.util.HashMap;
import java.util.List;
import java.util.Map;
import java.util.Set;
import java.util.TreeSet;
import java.util.regex.Matcher;
import java.util.regex.Pattern;
import java.util.stream.Stream;

/** What README.md tells: its calls, made one by one, answer what stands behind them, and its tests are there. */
public final class ReadmeTest {
    private static final Path README = Path.of("README.md");
    private static final Path TESTS = Path.of("src/test/java");
    private static final String BEGIN = "CertHerd herd = new CertHerd();";
    private static final Pattern CALL =
            Pattern.compile("(?:(int|boolean) (\\w+) = )?herd\\.(\\w+)\\(([^()]*)\\);(?: +// ([^:]*)(?:: .*)?)?");

    private final Map<String, Integer> values = new HashMap<>();
    private final Set<String> called = new TreeSet<>();
    private final Set<String> thrown = new TreeSet<>();
    private CertHerd herd = new CertHerd();

    public static void main(String[] args) throws IOException {
        List<String> lines = Files.readAllLines(README);
        ReadmeTest test = new ReadmeTest();
        for (String line : codeOf(lines)) {
            test.run(line);
        }
        Check.about("README.md");
        Check.same("calls that it shows", test.called, callsOfFace());
        Check.same("exceptions that it shows", test.thrown, Set.of("throws IllegalArgumentException",
                "throws IllegalStateException", "throws IndexOutOfBoundsException"));
        Check.same("tests that it names", testsNamedIn(lines), testsThere());
        Check.same("it names the script", String.join(" ", lines).contains("`.ci/run`"), true);
        Check.end();
    }

    private void run(String line) {
        Check.about("README.md: " + line);
        Matcher matcher = CALL.matcher(line);
        if (line.equals(BEGIN)) {
            herd = new CertHerd();
        } else if (matcher.matches()) {
            call(matcher);
        } else {
            Check.same("a call that can be read", false, true);
        }
    }

    private void call(Matcher parts) {
        String name = parts.group(3);
        Object answer = answer(name, arguments(parts.group(4)), parts.group(1));
        called.add(name);
        if (parts.group(5) != null) {
            Check.same("it", String.valueOf(answer), parts.group(5));
            if (parts.group(5).startsWith("throws ")) {
                thrown.add(parts.group(5));
            }
        } else {
            Check.same("without an answer", answer, null);
        }
        if (answer instanceof Integer number && parts.group(2) != null) {
            values.put(parts.group(2), number);
        }
    }

    private Object answer(String name, Object[] arguments, String type) {
        try {
            Class<?>[] types = new Class<?>[arguments.length];
            Arrays.fill(types, int.class);
            Method method = CertHerd.class.getMethod(name, types);
            if (type != null) {
                Check.same("type", method.getReturnType().getName(), type);
            }
            return method.invoke(herd, arguments);
        } catch (InvocationTargetException e) {
            return "throws " + e.getCause().getClass().getSimpleName();
        } catch (ReflectiveOperationException e) {
            return "no such call";
        }
    }

    private Object[] arguments(String text) {
        List<Object> arguments = new ArrayList<>();
        for (String word : text.isEmpty() ? new String[0] : text.split(", ")) {
            if (word.equals("CertHerd.NONE")) {
                arguments.add(CertHerd.NONE);
            } else {
                arguments.add(word.matches("-?\\d+") ? Integer.valueOf(word) : values.get(word));
            }
        }
        Check.same("arguments that are known", arguments.contains(null), false);
        return arguments.contains(null) ? new Object[0] : arguments.toArray();
    }

    private static List<String> codeOf(List<String> lines) {
        List<String> code = new ArrayList<>();
        boolean inside = false;
        for (String line : lines) {
            if (line.startsWith("```")) {
                inside = line.equals("```java");
            } else if (inside && !line.isBlank()) {
                code.add(line);
            }
        }
        return code;
    }

    private static Set<String> callsOfFace() {
        Set<String> calls = new TreeSet<>();
        for (Method method : CertHerd.class.getDeclaredMethods()) {
            if (Modifier.isPublic(method.getModifiers())) {
                calls.add(method.getName());
            }
        }
        return calls;
    }

    private static Set<String> testsNamedIn(List<String> lines) {
        Set<String> tests = new TreeSet<>();
        Matcher matcher = Pattern.compile("`(\\w+Test)`").matcher(String.join(" ", lines));
        while (matcher.find()) {
            tests.add(matcher.group(1));
        }
        return tests;
    }

    private static Set<String> testsThere() throws IOException {
        Set<String> tests = new TreeSet<>();
        try (Stream<Path> files = Files.list(TESTS)) {
            for (Path file : files.toList()) {
                String name = file.getFileName().toString();
                if (name.endsWith("Test.java")) {
                    tests.add(name.replace(".java", ""));
                }
            }
        }
        return tests;
    }
}
