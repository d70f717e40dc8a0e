import java.io.ByteArrayOutputStream;
import java.io.IOException;
import java.io.PrintStream;
import java.nio.charset.StandardCharsets;
import java.nio.file.Files;
import java.nio.file.Path;
import java.util.NoSuchElementException;
import java.util.TreeSet;
import java.util.stream.Stream;

/** What README.md says is so: its example, the methods of the face, the classes, the tests. */
public final class ReadmeTest {
    private static final Path README = Path.of("README.md");
    private static final Path DOCUMENT = Path.of("../shared/DOC.md");
    private static final Path TESTS = Path.of("src/test/java");

    private ReadmeTest() {
    }

    public static void main(String[] args) throws IOException {
        String readme = Files.readString(README);
        example(readme);
        face(readme, Files.readString(DOCUMENT));
        classes(readme);
        tests(readme);
        Check.end("ReadmeTest");
    }

    /** What stands between the first line ```kind and the next line ```. */
    private static String block(String text, String kind) {
        String opening = "```" + kind + "\n";
        int start = text.indexOf(opening) + opening.length();
        return text.substring(start, text.indexOf("```\n", start));
    }

    private static void example(String readme) throws IOException {
        Check.same("the example", block(readme, "java"), Files.readString(TESTS.resolve("Example.java")));
        Check.same("what the example prints", block(readme, "text"), printed());
    }

    private static String printed() {
        PrintStream before = System.out;
        ByteArrayOutputStream bytes = new ByteArrayOutputStream();
        try (PrintStream caught = new PrintStream(bytes, true, StandardCharsets.UTF_8)) {
            System.setOut(caught);
            Example.main(new String[0]);
        } catch (NoSuchElementException e) {
            return e.toString();
        } finally {
            System.setOut(before);
        }
        return bytes.toString(StandardCharsets.UTF_8).replace(System.lineSeparator(), "\n");
    }

    /** Each method, as the document's face has it, heads a row with what it takes and what it answers. */
    private static void face(String readme, String document) {
        int methods = 0;
        for (String line : block(document, "java").split("\n")) {
            String bare = line.trim();
            if (bare.startsWith("public ") && bare.endsWith(";") && bare.contains("(") && !bare.contains("RaisedQueue(")) {
                String method = bare.substring("public ".length(), bare.length() - 1);
                Check.same(method + " is told", rowOf(readme, method), true);
                methods++;
            }
        }
        Check.same("methods of the face", methods, 35);
        Check.same("the constructor is told", readme.contains("`new RaisedQueue()`"), true);
    }

    private static boolean rowOf(String readme, String head) {
        return Stream.of(readme.split("\n")).anyMatch(row -> row.startsWith("| `" + head + "` | ")
            && row.split(" \\| ").length == 3);
    }

    private static void classes(String readme) {
        for (Class<?> c : RaisedQueue.class.getDeclaredClasses()) {
            Check.same("class " + c.getSimpleName() + " is told", readme.contains("`" + c.getSimpleName() + "`"), true);
        }
    }

    private static void tests(String readme) throws IOException {
        TreeSet<String> names = new TreeSet<>();
        try (Stream<Path> files = Files.list(TESTS)) {
            files.forEach(file -> names.add(file.getFileName().toString().replace(".java", "")));
        }
        for (String name : names) {
            Check.same(name + " is told", readme.contains("`" + name + "`"), true);
        }
    }
}
