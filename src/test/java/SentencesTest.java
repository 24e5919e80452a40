import java.nio.file.DirectoryStream;
import java.nio.file.Files;
import java.nio.file.Path;
import java.util.LinkedHashSet;
import java.util.Set;
import java.util.regex.Matcher;
import java.util.regex.Pattern;

/** Every sentence that a test of edges names stands in the document, and every sentence of the document is named. */
public final class SentencesTest {
    private static final Path DOCUMENT = Path.of("../shared/DOC.md");
    private static final Path TESTS = Path.of("src/test/java");
    private static final Pattern TOLD = Pattern.compile(
            "(Check\\.sentence\\(|String [A-Z_]+ =)\\s*((?:\"(?:[^\"\\\\]|\\\\.)*\"\\s*\\+?\\s*)+)[);]");
    private static final Pattern PIECE = Pattern.compile("\"((?:[^\"\\\\]|\\\\.)*)\"");

    public static void main(String[] args) throws Exception {
        if (!Files.isReadable(DOCUMENT)) {
            System.out.println("the document is not here");
            return;
        }
        String document = flat(Files.readString(DOCUMENT));
        Set<String> told = told(document);
        Check.yes("the sentences are found", told.size() > 80);
        Check.equal("what no test names", rest(document, told), "");
        Check.finish();
    }

    private static String flat(String text) {
        return text.replaceAll("\\s+", " ");
    }

    private static Set<String> told(String document) throws Exception {
        Set<String> told = new LinkedHashSet<>();
        try (DirectoryStream<Path> files = Files.newDirectoryStream(TESTS, "*EdgesTest.java")) {
            for (Path file : files) {
                Matcher call = TOLD.matcher(Files.readString(file));
                while (call.find()) {
                    String sentence = joined(call.group(2));
                    boolean stands = document.contains(sentence);
                    Check.yes(file.getFileName() + ": the document has [" + sentence + "]",
                            stands || !call.group(1).startsWith("Check"));
                    if (stands) {
                        told.add(sentence);
                    }
                }
            }
        }
        return told;
    }

    private static String joined(String literals) {
        StringBuilder all = new StringBuilder();
        Matcher piece = PIECE.matcher(literals);
        while (piece.find()) {
            all.append(piece.group(1).replace("\\\"", "\""));
        }
        return all.toString();
    }

    // The terms and the promises, without their headings and the rows of the face.
    private static String rest(String document, Set<String> told) {
        int from = document.indexOf("## Terms");
        int to = document.indexOf("## Not promised");
        Check.yes("the terms and the promises are found", from >= 0 && to > from);
        boolean[] named = new boolean[document.length()];
        for (String sentence : told) {
            for (int at = document.indexOf(sentence); at >= 0; at = document.indexOf(sentence, at + 1)) {
                for (int i = at; i < at + sentence.length(); i++) {
                    named[i] = true;
                }
            }
        }
        StringBuilder rest = new StringBuilder();
        for (int i = Math.max(from, 0); i < to; i++) {
            rest.append(named[i] ? ' ' : document.charAt(i));
        }
        return rest.toString().replace("## Terms", "").replaceAll("## Promise \\d+: \\w+( \\w+)*", "")
                .replaceAll("`[^`]+`:", "").replaceAll("```(text)?", "").replaceAll("==== \\d\\.", "")
                .replaceAll("\\s+", " ").strip();
    }
}
