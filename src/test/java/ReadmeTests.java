import java.io.IOException;
import java.lang.reflect.Field;
import java.lang.reflect.Method;
import java.lang.reflect.Modifier;
import java.nio.file.Files;
import java.nio.file.Path;
import java.util.HashMap;
import java.util.List;
import java.util.Map;
import java.util.regex.Matcher;
import java.util.regex.Pattern;
import java.util.stream.Stream;

/** README.md: each line of its examples answers what stands behind it, and it leaves no call out. */
public final class ReadmeTests {
    private static final Path README = Path.of("README.md");
    private static final Path TESTS = Path.of("src/test/java");
    private static final String NEW_OBJECT = "BitShadows x = new BitShadows();";
    private static final Pattern CALL = Pattern.compile("x\\.(\\w+)\\(([-0-9, ]*)\\); +// (-?\\d+|[A-Z]+)(: .+)?");
    private static final int EXAMPLES_LEAST = 5;

    private static final Map<String, Method> METHODS = new HashMap<>();
    private static final Map<String, Long> CONSTANTS = new HashMap<>();
    private static int wrong = 0;

    private static void complain(String words) {
        wrong++;
        System.out.println(words);
    }

    private static void findFace() throws ReflectiveOperationException {
        for (Method m : BitShadows.class.getDeclaredMethods()) {
            if (Modifier.isPublic(m.getModifiers())) {
                METHODS.put(m.getName(), m);
            }
        }
        for (Field f : BitShadows.class.getDeclaredFields()) {
            if (Modifier.isPublic(f.getModifiers())) {
                CONSTANTS.put(f.getName(), (long) f.getInt(null));
            }
        }
    }

    private static Object[] argumentsOf(String text) {
        if (text.isBlank()) {
            return new Object[0];
        }
        return Stream.of(text.split(",")).map(number -> (Object) Integer.valueOf(number.trim())).toArray();
    }

    private static void runCall(BitShadows x, String line) throws ReflectiveOperationException {
        Matcher call = CALL.matcher(line);
        if (x == null || !call.matches()) {
            complain("README.md has a line that is no call with its answer: " + line);
            return;
        }
        String answer = call.group(3);
        Method method = METHODS.get(call.group(1));
        Object[] arguments = argumentsOf(call.group(2));
        boolean isNumber = answer.matches("-?\\d+");
        if (method == null || method.getParameterCount() != arguments.length || !(isNumber || CONSTANTS.containsKey(answer))) {
            complain("README.md has a call or an answer that the face has not: " + line);
            return;
        }
        long want = isNumber ? Long.parseLong(answer) : CONSTANTS.get(answer);
        long got = ((Number) method.invoke(x, arguments)).longValue();
        if (got != want) {
            complain("README.md: " + line + " answered " + got);
        }
    }

    private static void runExamples(List<String> lines) throws ReflectiveOperationException {
        BitShadows x = null;
        boolean inExample = false;
        int examples = 0;
        for (String line : lines) {
            if (line.startsWith("```")) {
                inExample = line.equals("```java");
                x = null;
            } else if (inExample && line.equals(NEW_OBJECT)) {
                x = new BitShadows();
                examples++;
            } else if (inExample) {
                runCall(x, line);
            }
        }
        if (examples < EXAMPLES_LEAST) {
            complain("README.md has " + examples + " examples, " + EXAMPLES_LEAST + " at least are due");
        }
    }

    private static void checkNames(String text) throws IOException {
        for (String name : METHODS.keySet()) {
            if (!text.contains("`" + name + "`")) {
                complain("README.md does not tell of " + name);
            }
        }
        for (Map.Entry<String, Long> constant : CONSTANTS.entrySet()) {
            boolean inTable = text.contains("`" + constant.getKey() + "` | " + constant.getValue() + " |");
            boolean inWords = text.contains("`" + constant.getKey() + "` (" + constant.getValue() + ")");
            if (!inTable && !inWords) {
                complain("README.md does not tell the number of " + constant.getKey());
            }
        }
        try (Stream<Path> files = Files.list(TESTS)) {
            for (Path file : (Iterable<Path>) files::iterator) {
                String name = file.getFileName().toString().replace(".java", "");
                if (!text.contains("- `" + name + "`:")) {
                    complain("README.md does not name the test " + name);
                }
            }
        }
        if (!text.contains(".ci/run")) {
            complain("README.md does not tell how the tests are run");
        }
    }

    public static void main(String[] args) throws IOException, ReflectiveOperationException {
        findFace();
        runExamples(Files.readAllLines(README));
        checkNames(Files.readString(README));
        System.out.println(wrong == 0 ? "README.md tells what the class does" : wrong + " things in README.md are wrong");
        if (wrong != 0) {
            System.exit(1);
        }
    }
}
