import java.io.IOException;
import java.lang.reflect.InvocationTargetException;
import java.lang.reflect.Method;
import java.lang.reflect.Modifier;
import java.net.URL;
import java.net.URLClassLoader;
import java.nio.file.Files;
import java.nio.file.Path;
import java.util.Comparator;
import java.util.List;
import java.util.Set;
import java.util.TreeSet;
import java.util.regex.Matcher;
import java.util.regex.Pattern;
import java.util.stream.Collectors;
import java.util.stream.Stream;
import javax.tools.JavaCompiler;
import javax.tools.ToolProvider;

/** Compiles and runs what README.md shows of the use of the class, and holds each answer that it tells. */
public final class ReadmeTest {
    private static final Pattern BLOCK = Pattern.compile("```java\n(.*?)```", Pattern.DOTALL);
    /** A call, and what it answers or throws; words may follow behind a colon. */
    private static final Pattern SHOWN =
            Pattern.compile("(city\\.(\\w+)\\(.*\\));\\s*// (-?\\d+|true|false|NoSuchElementException)(:.*)?");
    private static final Pattern CALL = Pattern.compile("city\\.\\w+\\(.*");

    private ReadmeTest() {
    }

    public static void main(String[] args) throws IOException, ReflectiveOperationException {
        String page = Files.readString(Path.of("README.md"));
        Set<String> shown = new TreeSet<>();
        String source = sourceOf(page, shown);
        Check.due("README.md shows " + shown + ", all calls of the face " + face(), shown.equals(face()), true);
        Path folder = Files.createTempDirectory("readme");
        try {
            run(folder, source);
        } finally {
            delete(folder);
        }
        Check.due("README.md names .ci/run", page.contains(".ci/run"), true);
        Check.finish("ReadmeTest");
    }

    /** Public, for the class that is made of the page calls it from another loader. */
    public static void held(String call, Object got, String want) {
        Check.due("README.md: " + call + " answered " + got + ", shown is " + want + ", alike",
                String.valueOf(got).equals(want), true);
    }

    private static Set<String> face() {
        return Stream.of(WallsOfBooks.class.getDeclaredMethods())
                .filter(m -> Modifier.isPublic(m.getModifiers()))
                .map(Method::getName).collect(Collectors.toCollection(TreeSet::new));
    }

    /** One class: what begins with static stands beside main, all else in it, in the order of the page. */
    private static String sourceOf(String page, Set<String> shown) {
        StringBuilder beside = new StringBuilder();
        StringBuilder inside = new StringBuilder();
        Matcher block = BLOCK.matcher(page);
        while (block.find()) {
            String code = block.group(1);
            if (code.startsWith("static ")) {
                beside.append(code);
            } else {
                code.lines().forEach(line -> inside.append(heldLine(line, shown)).append('\n'));
            }
        }
        return "public final class Shown {\n" + beside + "public static void main(String[] args) {\n" + inside + "}\n}\n";
    }

    private static String heldLine(String line, Set<String> shown) {
        Matcher m = SHOWN.matcher(line);
        if (!m.matches()) {
            Check.due("README.md tells what this answers: " + line, CALL.matcher(line).matches(), false);
            return line;
        }
        shown.add(m.group(2));
        String name = "\"" + m.group(1) + "\"";
        String answer = "\"" + m.group(3) + "\"";
        String holds = "ReadmeTest.held(" + name + ", " + m.group(1) + ", " + answer + ");";
        if (!m.group(3).equals("NoSuchElementException")) {
            return holds;
        }
        return "try { " + holds + " } catch (java.util.NoSuchElementException e) { ReadmeTest.held(" + name
                + ", e.getClass().getSimpleName(), " + answer + "); }";
    }

    private static void run(Path folder, String source) throws IOException, ReflectiveOperationException {
        Path file = Files.writeString(folder.resolve("Shown.java"), source);
        JavaCompiler compiler = ToolProvider.getSystemJavaCompiler();
        int failed = compiler == null ? -1 : compiler.run(null, null, null, "-proc:none", "-d", folder.toString(),
                "-cp", System.getProperty("java.class.path"), file.toString());
        Check.due("what README.md shows compiles", failed, 0);
        if (failed != 0) {
            return;
        }
        URL[] where = {folder.toUri().toURL()};
        try (URLClassLoader loader = new URLClassLoader(where, ReadmeTest.class.getClassLoader())) {
            loader.loadClass("Shown").getMethod("main", String[].class).invoke(null, (Object) new String[0]);
        } catch (InvocationTargetException e) {
            Check.due("what README.md shows threw " + e.getCause() + ", which", 1, 0);
        }
    }

    private static void delete(Path folder) throws IOException {
        List<Path> all;
        try (Stream<Path> walk = Files.walk(folder)) {
            all = walk.sorted(Comparator.reverseOrder()).collect(Collectors.toList());
        }
        for (Path p : all) {
            Files.delete(p);
        }
    }
}
