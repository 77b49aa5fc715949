import java.io.IOException;
import java.lang.reflect.Constructor;
import java.lang.reflect.Field;
import java.lang.reflect.Method;
import java.lang.reflect.Modifier;
import java.nio.file.Files;
import java.nio.file.Path;
import java.util.ArrayList;
import java.util.Arrays;
import java.util.HashSet;
import java.util.List;
import java.util.Set;
import java.util.TreeSet;

/** The public face of the document, and the rules of LANGUAGE.md that can be seen from outside. */
public final class FaceTest {
    private static final String[] FACE = {
        "int sign(int)", "boolean end(int)", "int books()", "int wall()", "int readers()", "int rule()",
        "int book(int,int)", "int column(int,int)", "int reader(int,int)", "int sheet(int,int,int,int)",
        "int lay(int,int)", "int lend(int,int,int)", "int recall(int)", "int shot(int,int)", "int days(int)",
        "int siege()", "int undo()", "int low(int)", "int weakest()", "int room(int)", "int home()",
        "int spares(int)", "int spare(int)", "int build(int)", "int tallest()", "int calls(int)",
        "int stack(int,int)", "int play(int)", "int law()", "int seen(int,int)", "int forget()", "int out(int)",
        "int look()", "int rests(int,int)", "int years(int,int)", "boolean keep(int)", "boolean again(int)",
        "int count(int)", "int row(int)"};

    public static void main(String[] args) throws IOException {
        theFace();
        theSource();
        Check.finish("FaceTest");
    }

    private static void theFace() {
        Set<String> open = new TreeSet<>();
        Set<String> names = new HashSet<>();
        for (Method m : WallsOfBooks.class.getDeclaredMethods()) {
            if (Modifier.isPublic(m.getModifiers())) {
                List<String> types = new ArrayList<>();
                for (Class<?> t : m.getParameterTypes()) {
                    types.add(t.getName());
                }
                open.add(m.getReturnType() + " " + m.getName() + "(" + String.join(",", types) + ")");
                names.add(m.getName());
            }
        }
        Check.due("the methods are " + open, open.equals(new TreeSet<>(Arrays.asList(FACE))), true);
        for (Method m : WallsOfBooks.class.getDeclaredMethods()) {
            boolean hidden = Modifier.isPrivate(m.getModifiers());
            Check.due(m + " is public or private", hidden || Modifier.isPublic(m.getModifiers()), true);
            Check.due(m + " bears a name of the face", hidden && names.contains(m.getName()), false);
        }
        for (Field f : WallsOfBooks.class.getDeclaredFields()) {
            Check.due(f + " is private", Modifier.isPrivate(f.getModifiers()), !f.getName().equals("NONE"));
        }
        for (Constructor<?> c : WallsOfBooks.class.getDeclaredConstructors()) {
            Check.due(c + " is public", Modifier.isPublic(c.getModifiers()) && c.getParameterCount() == 0, true);
        }
        for (Class<?> c : WallsOfBooks.class.getDeclaredClasses()) {
            Check.due(c + " is static", Modifier.isStatic(c.getModifiers()), true);
        }
        Check.due("final", Modifier.isFinal(WallsOfBooks.class.getModifiers()), true);
    }

    private static void theSource() throws IOException {
        String source = Files.readString(Path.of("src/main/java/WallsOfBooks.java"));
        String code = source.replaceAll("(?s)/\\*.*?\\*/", "").replaceAll("//[^\n]*", "");
        String[] never = {"->", "::", "catch", "try {", "finally", "assert", "synchronized", "instanceof", "double",
            "float", "Exact(", "static {", "protected", "package ", "String.", "Random", "Object"};
        for (String word : never) {
            Check.due("the class has '" + word + "'", code.contains(word), false);
        }
        for (String line : code.split("\n")) {
            if (line.startsWith("import")) {
                Check.due(line, line.matches("import java.util.(Arrays|NoSuchElementException);"), true);
            }
            if (line.contains("throw new")) {
                Check.due(line.trim(), line.contains("throw new NoSuchElementException(\""), true);
            }
            if (line.contains("System.")) {
                Check.due(line.trim(), line.contains("System.arraycopy("), true);
            }
            Check.due("a loop without an end", line.contains("while (true)") || line.contains("for (;;)"), false);
        }
    }
}
