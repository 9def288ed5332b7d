import java.io.IOException;
import java.nio.file.Files;
import java.nio.file.Path;
import java.util.regex.Matcher;
import java.util.regex.Pattern;

/** The rules of ../shared/LANGUAGE.md that the words of the source show. */
public final class LanguageTest {
    private static final String[] FORBIDDEN = {
        "\\bthrow\\b", "\\bthrows\\b", "\\btry\\b", "\\bcatch\\b", "\\bsynchronized\\b",
        "\\bassert\\b", "\\bpackage\\b", "->", "::", "\\bprotected\\b", "\\bequals\\b",
        "\\bhashCode\\b", "\\btoString\\b", "Exact\\b", "\\bSystem\\.(?!arraycopy)",
        "\\bRandom\\b", "\\bThread\\b", "\\b(Integer|Long)\\.(?!MIN_VALUE\\b)[A-Z]",
    };
    private static final int LONGEST_METHOD = 60;

    public static void main(String[] args) throws IOException {
        Check c = new Check("LanguageTest");
        String source = Files.readString(Path.of("src/main/java/IntervalAgreement.java"));
        String code = withoutComments(source);
        for (String word : FORBIDDEN) {
            Matcher matcher = Pattern.compile(word).matcher(code);
            c.holds("none of " + word, !matcher.find());
        }
        c.holds("signs 1 to 127", source.chars().allMatch(sign -> sign >= 1 && sign <= 127));
        nestedClassesAreStatic(c, code);
        methodsAreShort(c, source);
        c.finish();
    }

    private static String withoutComments(String source) {
        return source.replaceAll("(?s)/\\*.*?\\*/", "").replaceAll("//[^\n]*", "");
    }

    private static void nestedClassesAreStatic(Check c, String code) {
        Matcher matcher = Pattern.compile("(?m)^( +.*)\\b(class|interface|enum|record) \\w+.*\\{")
                .matcher(code);
        while (matcher.find()) {
            c.holds("static: " + matcher.group(), matcher.group(1).contains("static"));
        }
    }

    /** A method opens at an indent of 4 or 8 with a brace and ends with a brace at that indent. */
    private static void methodsAreShort(Check c, String source) {
        Matcher matcher = Pattern
                .compile("(?ms)^( {4}| {8})(?!.*\\bclass\\b)\\S[^\n]*\\) \\{$.*?^\\1\\}$").matcher(source);
        while (matcher.find()) {
            long lines = matcher.group().lines().count();
            c.holds("short: " + matcher.group().lines().findFirst().get(), lines <= LONGEST_METHOD);
        }
    }
}
