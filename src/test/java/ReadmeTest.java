import java.io.IOException;
import java.lang.reflect.Method;
import java.lang.reflect.Modifier;
import java.net.URL;
import java.net.URLClassLoader;
import java.nio.file.Files;
import java.nio.file.Path;
import java.util.List;
import java.util.regex.Matcher;
import java.util.regex.Pattern;
import java.util.stream.Collectors;
import java.util.stream.Stream;
import javax.tools.ToolProvider;

/** README.md: its calls answer what it says, and it names each method and each test. */
public final class ReadmeTest {
    private static final Path README = Path.of("README.md");
    private static final Path TESTS = Path.of("src/test/java");
    private static final Pattern BLOCK = Pattern.compile("(?s)```java\n(.*?)```");
    /** A call alone on its line, with its answer behind it. */
    private static final Pattern ANSWERED = Pattern.compile("(x\\.\\w+\\(.*\\)); +// (-?\\d+)\\b.*");

    private ReadmeTest() {
    }

    public static void main(String[] args) throws Exception {
        Check c = new Check("ReadmeTest");
        String readme = Files.readString(README);
        methodsAreNamed(c, readme);
        testsAreNamed(c, readme);
        answers(c, readme);
        c.finish();
    }

    private static void methodsAreNamed(Check c, String readme) {
        for (Method method : IntervalAgreement.class.getDeclaredMethods()) {
            if (Modifier.isPublic(method.getModifiers())) {
                c.holds("named: " + method.getName(),
                        readme.contains("`" + method.getName() + "`"));
            }
        }
    }

    private static void testsAreNamed(Check c, String readme) throws IOException {
        try (Stream<Path> files = Files.list(TESTS)) {
            for (Path file : files.sorted().collect(Collectors.toList())) {
                String name = file.getFileName().toString().replace(".java", "");
                c.holds("named: " + name, readme.contains("| `" + name + "` |")
                        || !name.endsWith("Test"));
            }
        }
    }

    private static void answers(Check c, String readme) throws Exception {
        List<String> lines = BLOCK.matcher(readme).results()
                .flatMap(block -> block.group(1).lines()).collect(Collectors.toList());
        long answered = lines.stream().filter(line -> ANSWERED.matcher(line).matches()).count();
        long calls = lines.stream().filter(line -> line.startsWith("x.")).count();
        c.same("lines of README.md with an answer", answered, calls);
        Path build = Files.createTempDirectory("readme");
        try {
            run(c, lines, build);
        } finally {
            Files.deleteIfExists(build.resolve("Readme.class"));
            Files.deleteIfExists(build.resolve("Readme.java"));
            Files.deleteIfExists(build);
        }
    }

    private static void run(Check c, List<String> lines, Path build) throws Exception {
        StringBuilder program = new StringBuilder("public class Readme {\n"
                + "public static long[] answers() { long[] a = new long[512]; int k = 0;\n");
        for (String line : lines) {
            Matcher matcher = ANSWERED.matcher(line);
            program.append(matcher.matches() ? "a[k++] = " + matcher.group(1) + ";" : line)
                    .append('\n');
        }
        Path file = build.resolve("Readme.java");
        Files.writeString(file, program + "return a; } }\n");
        int result = ToolProvider.getSystemJavaCompiler().run(null, null, null, "-cp",
                System.getProperty("java.class.path"), "-d", build.toString(), file.toString());
        c.same("compiling the blocks of README.md", result, 0);
        if (result == 0) {
            compare(c, lines, build);
        }
    }

    private static void compare(Check c, List<String> lines, Path build) throws Exception {
        try (URLClassLoader loader = new URLClassLoader(new URL[] {build.toUri().toURL()})) {
            long[] answers = (long[]) loader.loadClass("Readme").getMethod("answers").invoke(null);
            int k = 0;
            for (String line : lines) {
                Matcher matcher = ANSWERED.matcher(line);
                if (matcher.matches()) {
                    c.same("README.md: " + matcher.group(1), answers[k],
                            Long.parseLong(matcher.group(2)));
                    k++;
                }
            }
        }
    }
}
