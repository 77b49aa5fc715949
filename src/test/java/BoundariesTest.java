import java.io.IOException;
import java.nio.file.Files;
import java.nio.file.Path;
import java.util.ArrayList;
import java.util.List;
import java.util.regex.Matcher;
import java.util.regex.Pattern;

/**
 * Each sentence of the document that names a boundary case, by a test of its own (the files
 * BoundsOf..). Here the quotes are held against the document: each stands under its promise, and no
 * words that name a bound stand outside of all quotes.
 */
public final class BoundariesTest {
    private static final Path DOCUMENT = Path.of("../shared/DOC.md");
    /** Words by which the document names a bound, an empty or full thing, or a call that is refused. */
    private static final Pattern BOUND = Pattern.compile("-\\d+( - p)?: |NONE: |NONE\\)|NONE for|Refused|\\d+ \\.\\. |"
            + "NoSuchElementException: |at most|at first|an empty |too early|no room|[Nn]othing|none|without|"
            + "more than|likewise|\\(cut\\)|cut to 0|as ints|lowest bits|fewer|another|of equal ones|of as |as one|"
            + "not refused|others|1 to \\d|1 or 2 digits|forgotten|\\(never|first \\d+");

    private BoundariesTest() {
    }

    public static void main(String[] args) throws IOException {
        runAll();
        if (Files.isReadable(DOCUMENT)) {
            holdAgainst(Files.readString(DOCUMENT));
        } else {
            System.out.println(DOCUMENT + " is not there: the quotes were not held against it");
        }
        int many = Bounds.QUOTES.values().stream().mapToInt(List::size).sum();
        System.out.println("sentences with a test of their own: " + many);
        Check.finish("BoundariesTest");
    }

    /** The tests that failed, by promise and words. */
    static List<String> runAll() {
        BoundsOfTerms.run();
        BoundsOfTexts.run();
        BoundsOfSiege.run();
        BoundsOfStanding.run();
        BoundsOfLaying.run();
        BoundsOfLaws.run();
        return Bounds.BROKEN;
    }

    private static void holdAgainst(String document) {
        for (int promise = 0; promise <= 40; promise++) {
            String section = sectionOf(document, promise);
            Check.due("promise " + promise + " has words", section.length() > 40, true);
            boolean[] quoted = new boolean[section.length()];
            for (String words : Bounds.QUOTES.getOrDefault(promise, new ArrayList<>())) {
                Check.due("promise " + promise + " says \"" + words + "\"", mark(section, words, quoted), true);
            }
            Matcher bound = BOUND.matcher(section);
            while (bound.find()) {
                Check.due("promise " + promise + ", \"" + around(section, bound.start()) + "\" has a test",
                        quoted[bound.start()], true);
            }
        }
    }

    private static String sectionOf(String document, int promise) {
        String head = promise == 0 ? "An object is used" : "## Promise " + promise + ":";
        int from = document.indexOf(head);
        int to = document.indexOf(promise == 40 ? "## Not promised" : "## Promise " + (promise + 1) + ":");
        if (from < 0 || to < from) {
            return "";
        }
        String section = document.substring(from, to);
        // The face stands among the terms as code, and says nothing of its own.
        return section.replaceAll("(?s)```java.*?```", " ").replaceAll("\\s+", " ");
    }

    private static boolean mark(String section, String words, boolean[] quoted) {
        int at = section.indexOf(words);
        for (int i = at; i >= 0 && i < at + words.length(); i++) {
            quoted[i] = true;
        }
        return at >= 0;
    }

    private static String around(String section, int at) {
        return section.substring(Math.max(0, at - 25), Math.min(section.length(), at + 35));
    }
}
