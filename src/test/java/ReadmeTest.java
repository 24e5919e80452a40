import java.io.ByteArrayOutputStream;
import java.io.PrintStream;
import java.nio.charset.StandardCharsets;
import java.nio.file.Files;
import java.nio.file.Path;
import java.util.TreeSet;
import java.util.regex.Matcher;
import java.util.regex.Pattern;

/** README.md shows the program Example as it is, with what it prints, and names every call and every test. */
public final class ReadmeTest {
    private static final Path TESTS = Path.of("src/test/java");

    public static void main(String[] args) throws Exception {
        String readme = Files.readString(Path.of("README.md"));
        Check.equal("the program", block(readme, "java"), Files.readString(TESTS.resolve("Example.java")));
        Check.equal("what it prints", block(readme, "text"), printed());
        calls(readme);
        tests(readme);
        Check.finish();
    }

    private static String block(String readme, String language) {
        Matcher block = Pattern.compile("(?s)```" + language + "\n(.*?)```").matcher(readme);
        return block.find() ? block.group(1) : "";
    }

    private static String printed() {
        PrintStream usual = System.out;
        ByteArrayOutputStream kept = new ByteArrayOutputStream();
        System.setOut(new PrintStream(kept, true, StandardCharsets.ISO_8859_1));
        Example.main(new String[0]);
        System.setOut(usual);
        return kept.toString(StandardCharsets.ISO_8859_1).replace(System.lineSeparator(), "\n");
    }

    private static void calls(String readme) {
        TreeSet<String> names = new TreeSet<>();
        for (var method : PassagePicker.class.getMethods()) {
            if (method.getDeclaringClass() == PassagePicker.class) {
                names.add(method.getName());
            }
        }
        Check.equal("calls of the face", names.size(), 35);
        for (String name : names) {
            Check.yes("the call " + name, Pattern.compile("`" + name + "(\\([^`]*\\))?`").matcher(readme).find());
        }
    }

    private static void tests(String readme) throws Exception {
        try (var files = Files.newDirectoryStream(TESTS, "*Test.java")) {
            for (Path file : files) {
                String name = file.getFileName().toString().replace(".java", "");
                Check.yes("the test " + name, readme.contains("| " + name + " |"));
            }
        }
        Check.yes("how they are run", readme.contains("\n.ci/run\n"));
    }
}
