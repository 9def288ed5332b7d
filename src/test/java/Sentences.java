import java.io.IOException;
import java.io.UncheckedIOException;
import java.nio.file.Files;
import java.nio.file.Path;
import java.util.LinkedHashMap;
import java.util.Map;
import java.util.function.Consumer;

/**
 * Boundary tests by the sentence of the document that they hold the program to. A test names its
 * sentence in the document's own words. Words that no test has named, and that are not told to name
 * no boundary, are wrong at the end: so none is forgotten, and none outlives a change of the document.
 */
final class Sentences {
    /** Words that several promises tell of their arguments. */
    static final String NODE = "`node`: the node";
    static final String HIGH = "`high`: true for the high end, false for the low end";
    static final String DENOMINATOR =
            "`denominator`: true for the denominator, false for the numerator";

    private static final Path DOCUMENT = Path.of("../shared/DOC.md");
    private static final String NAMED = "|";

    private final Check check;
    /** By heading: the words of the section that are not named yet. */
    private final Map<String, String> unnamed;
    private String heading = "";
    private int tests;

    Sentences(Check check) {
        this.check = check;
        this.unnamed = sections();
    }

    /** Headings are lines with two signs of number before them, or of capitals alone. */
    private static Map<String, String> sections() {
        Map<String, StringBuilder> found = new LinkedHashMap<>();
        String heading = "";
        boolean inCode = false;
        for (String line : linesOfTheDocument()) {
            if (line.startsWith("```")) {
                inCode = !inCode;
            } else if (line.startsWith("## ") || line.matches("[A-Z][A-Z ]+")) {
                heading = line.replace("## ", "");
            } else if (!inCode && !heading.isEmpty() && !isSignature(line)) {
                found.computeIfAbsent(heading, key -> new StringBuilder()).append(line).append(' ');
            }
        }
        Map<String, String> sections = new LinkedHashMap<>();
        found.forEach((key, text) -> sections.put(key, spaced(text.toString())));
        return sections;
    }

    private static Iterable<String> linesOfTheDocument() {
        try {
            return Files.readAllLines(DOCUMENT);
        } catch (IOException e) {
            throw new UncheckedIOException(e);
        }
    }

    /** The signatures are compared by PublicFaceTest. */
    private static boolean isSignature(String line) {
        return line.matches("`[^`]*\\)`");
    }

    private static String spaced(String words) {
        return words.replaceAll("\\s+", " ").trim();
    }

    void section(String wanted) {
        heading = wanted;
        check.holds("the document has the section " + wanted, unnamed.containsKey(wanted));
    }

    /** One boundary sentence of the section, and what it asks of the program. */
    void test(String words, Consumer<Check> test) {
        name(words);
        tests++;
        int before = check.compared();
        check.about(heading + ": " + words);
        try {
            test.accept(check);
        } catch (RuntimeException e) {
            check.holds("no call throws, but one threw " + e, false);
        }
        check.holds("something is compared", check.compared() > before);
        check.about("");
    }

    /** Words of the section that tell of no boundary; the other tests hold the program to them. */
    void noBoundary(String... words) {
        for (String one : words) {
            name(one);
        }
    }

    private void name(String words) {
        String left = unnamed.getOrDefault(heading, "");
        int start = left.indexOf(spaced(words));
        check.holds("the document says in " + heading + ": " + words, start >= 0);
        if (start >= 0) {
            unnamed.put(heading, left.substring(0, start) + NAMED
                    + left.substring(start + spaced(words).length()));
        }
    }

    void finish() {
        unnamed.forEach((key, left) -> check.holds("all is named in " + key + ", but not: " + left,
                !left.matches(".*[A-Za-z0-9].*")));
        System.out.println(tests + " sentences have a test of their own");
        check.finish();
    }
}
