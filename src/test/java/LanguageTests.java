import java.io.IOException;
import java.lang.management.ManagementFactory;
import java.lang.reflect.Constructor;
import java.lang.reflect.Field;
import java.lang.reflect.Method;
import java.lang.reflect.Modifier;
import java.nio.file.Files;
import java.nio.file.Path;
import java.util.Arrays;
import java.util.List;
import java.util.Set;
import java.util.TreeSet;
import java.util.regex.Matcher;
import java.util.regex.Pattern;

/** What LANGUAGE.md asks, as far as it can be seen from the source, the class and its calls. */
public final class LanguageTests {
    private static final Path SOURCE = Path.of("src/main/java/BitShadows.java");
    private static final int MOST_LINES = 60, MOST_PARAMETERS = 7, MOST_CLASSES = 12, MOST_FIELDS = 20;

    private static final List<String> FACE = List.of(
        "int start()", "int set(int,int)", "int forget(int,int,int)", "int copy(int,int)", "int load(int,int)",
        "int part(int,int,int,int)", "int store(int,int)", "int loadAt(int,int)", "int storeAt(int,int)",
        "int rule(int,int,int,int)", "int decide(int)", "int let(int,int)", "int giveBack(int)", "int drift(int)",
        "int lot(int)", "int undo()", "int told(int)", "long mark()", "int register(int,int)", "int octet(int,int)",
        "int ground(int,int)", "int cry(int,int)", "int ring(int,int)", "int shadow(int,int,int,int,int)",
        "int exact(int,int,int,int,int)", "int keep(int)", "int goBack(int)",
        "int NONE", "int UNKNOWN", "int OUTSIDE", "int NOT", "int FULL");

    private static final Set<String> FORBIDDEN = Set.of("throw", "throws", "try", "catch", "synchronized", "assert",
        "import", "package", "var", "volatile", "native", "strictfp", "Object", "System.out", "hashCode", "equals", "toString");

    private static int wrong = 0;

    private static void due(String what, Object got, Object want) {
        if (!got.equals(want)) {
            wrong++;
            System.out.println(what + " is " + got + ", due is " + want);
        }
    }

    private static void atMost(String what, int got, int most) {
        if (got > most) {
            wrong++;
            System.out.println(what + " is " + got + ", at most " + most + " is due");
        }
    }

    private static String parametersOf(Class<?>[] types) {
        return Arrays.stream(types).map(Class::getName).reduce((a, b) -> a + "," + b).orElse("");
    }

    private static void checkFace() {
        Set<String> seen = new TreeSet<>();
        for (Method m : BitShadows.class.getDeclaredMethods()) {
            if (!Modifier.isPrivate(m.getModifiers())) {
                due("public and not static: " + m, m.getModifiers(), Modifier.PUBLIC);
                seen.add(m.getReturnType().getName() + " " + m.getName() + "(" + parametersOf(m.getParameterTypes()) + ")");
            }
        }
        for (Field f : BitShadows.class.getDeclaredFields()) {
            if (!Modifier.isPrivate(f.getModifiers())) {
                due("a public constant: " + f, f.getModifiers(), Modifier.PUBLIC | Modifier.STATIC | Modifier.FINAL);
                seen.add(f.getType().getName() + " " + f.getName());
            }
        }
        due("the face", seen, new TreeSet<>(FACE));
        Constructor<?>[] constructors = BitShadows.class.getDeclaredConstructors();
        due("constructors", constructors.length, 1);
        due("the constructor is public", constructors[0].getModifiers(), Modifier.PUBLIC);
        due("the constructor's parameters", constructors[0].getParameterCount(), 0);
        due("the class", BitShadows.class.getModifiers(), Modifier.PUBLIC | Modifier.FINAL);
    }

    private static void checkClass(Class<?> c, Set<String> faceNames) {
        int fields = 0;
        for (Field f : c.getDeclaredFields()) {
            boolean isStatic = Modifier.isStatic(f.getModifiers());
            due("final, if static: " + f, isStatic && !Modifier.isFinal(f.getModifiers()), false);
            fields += isStatic ? 0 : 1;
        }
        atMost("fields of " + c.getName(), fields, MOST_FIELDS);
        for (Method m : c.getDeclaredMethods()) {
            atMost("parameters of " + m, m.getParameterCount(), MOST_PARAMETERS);
            boolean inFace = c == BitShadows.class && Modifier.isPublic(m.getModifiers());
            due("bears a name of the face: " + m, !inFace && faceNames.contains(m.getName()), false);
        }
    }

    private static void checkClasses() {
        Set<String> faceNames = new TreeSet<>();
        for (Method m : BitShadows.class.getMethods()) {
            faceNames.add(m.getName());
        }
        checkClass(BitShadows.class, faceNames);
        Class<?>[] inside = BitShadows.class.getDeclaredClasses();
        atMost("classes", inside.length + 1, MOST_CLASSES);
        for (Class<?> c : inside) {
            due("static: " + c, Modifier.isStatic(c.getModifiers()), true);
            due("not public or protected: " + c, (c.getModifiers() & (Modifier.PUBLIC | Modifier.PROTECTED)) == 0, true);
            checkClass(c, faceNames);
        }
    }

    private static String withoutComments(String text) {
        return Pattern.compile("/\\*.*?\\*/|//[^\n]*", Pattern.DOTALL).matcher(text).replaceAll("");
    }

    private static void checkWords(String text) {
        String code = withoutComments(text);
        for (String word : FORBIDDEN) {
            due("'" + word + "' in the source", Pattern.compile("\\b" + Pattern.quote(word) + "\\b").matcher(code).find(), false);
        }
        due("a lambda or method reference in the source", code.contains("->") || code.contains("::"), false);
        due("a sign beyond 126 in the source", text.chars().anyMatch(sign -> sign > 126), false);
        Matcher library = Pattern.compile("\\b(Integer|Long|Math|System|Arrays|String)\\.(\\w+)").matcher(code);
        while (library.find()) {
            due(library.group() + " is of the library that is left", Set.of("bitCount", "min", "arraycopy").contains(library.group(2)), true);
        }
    }

    /** Methods by their indent: a head at 4 or 8 that ends in a brace, to the brace at the same indent. */
    private static void checkLengths(List<String> lines) {
        Pattern head = Pattern.compile("^( {4}| {8})[a-z][^=;]*\\([^;]*\\) \\{$");
        for (int i = 0; i < lines.size(); i++) {
            Matcher m = head.matcher(lines.get(i));
            if (m.find() && !lines.get(i).trim().matches("(if|for|while|switch)\\b.*")) {
                int end = i;
                while (end < lines.size() && !lines.get(end).equals(m.group(1) + "}")) {
                    end++;
                }
                atMost("lines of " + lines.get(i).trim(), end - i + 1, MOST_LINES);
            }
        }
    }

    private static void callAll(BitShadows x) {
        x.let(0, 8);
        x.load(0, 0);
        x.part(1, 1, 2, 3);
        x.set(2, 5);
        x.forget(2, 1, 0);
        x.copy(3, 2);
        x.store(0, 9);
        x.loadAt(4, 0);
        x.storeAt(4, 0);
        x.rule(5, 5, 2, 0);
        x.decide(0);
        x.keep(0);
        x.drift(40);
        x.undo();
        x.goBack(0);
        x.giveBack(0);
        x.lot(7);
        x.told(8);
        x.mark();
        x.register(0, 5);
        x.octet(0, 3);
        x.ground(0, 3);
        x.cry(0, 2);
        x.ring(0, 2);
        x.shadow(3, 1, 2, 3, 4);
        x.exact(6, 1, 2, 3, 4);
        x.set(9, 0);
        x.start();
    }

    /** The least of some tries: now and then the machine makes something of its own between. */
    private static long bytesMade(boolean anew, boolean calls) {
        com.sun.management.ThreadMXBean threads = (com.sun.management.ThreadMXBean) ManagementFactory.getThreadMXBean();
        long id = Thread.currentThread().getId();
        BitShadows x = new BitShadows();
        long least = Long.MAX_VALUE;
        for (int i = 0; i < 15; i++) {
            long before = threads.getThreadAllocatedBytes(id);
            if (anew) {
                x = new BitShadows();
            }
            if (calls) {
                callAll(x);
            }
            least = Math.min(least, threads.getThreadAllocatedBytes(id) - before);
        }
        return least;
    }

    /** All calls of a run live in one room, so only the constructor may make objects. */
    private static void checkRoom() {
        long nothing = bytesMade(false, false);
        due("bytes made by calls", bytesMade(false, true) - nothing, 0L);
        atMost("bytes of one object", (int) (bytesMade(true, false) - nothing), 4096);
    }

    public static void main(String[] args) throws IOException {
        checkFace();
        checkClasses();
        checkWords(Files.readString(SOURCE));
        checkLengths(Files.readAllLines(SOURCE));
        checkRoom();
        System.out.println(wrong == 0 ? "the source keeps to the rules that are looked at" : wrong + " rules are not kept");
        if (wrong != 0) {
            System.exit(1);
        }
    }
}
