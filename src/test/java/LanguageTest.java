import java.io.IOException;
import java.nio.file.Files;
import java.nio.file.Path;
import java.util.List;
import java.util.regex.Matcher;
import java.util.regex.Pattern;

/** The text of the class keeps to the rules of ../shared/LANGUAGE.md that a text can show. Run it in the checkout. */
public final class LanguageTest {
    private static final Check CHECK = new Check("LanguageTest");
    // Some sixty lines.
    private static final int LONGEST_METHOD = 64;
    private static final String IMPORT = "import java\\.util\\.(ArrayList|Arrays|Iterator|List|NoSuchElementException);";
    private static final String LIBRARY =
        "(Math|Integer|Long)\\.\\w+|Arrays\\.(fill|copyOf|copyOfRange)|System\\.arraycopy|List\\.of";
    private static final String THROWN = "IllegalStateException|IllegalArgumentException|IndexOutOfBoundsException"
        + "|ArithmeticException|UnsupportedOperationException|NoSuchElementException|RuntimeException";

    public static void main(String[] args) throws IOException {
        List<String> lines = Files.readAllLines(Path.of("src/main/java/Queueward.java"));
        StringBuilder code = new StringBuilder();
        for (String line : lines) {
            CHECK.due("only signs from 32 to 126 in " + line, true, () -> line.chars().allMatch(c -> c >= 32 && c < 127));
            if (line.startsWith("import")) {
                CHECK.due("an import", true, () -> line.matches(IMPORT));
            } else if (!line.strip().startsWith("*") && !line.strip().startsWith("/*")) {
                code.append(line.replaceAll("//.*", "")).append('\n');
            }
        }
        String text = code.toString().replaceAll("\"[^\"\n]*\"", "\"\"");
        none(text, "\\bpackage\\b|\\) *->|::|\\bfinally\\b|\\bsynchronized\\b|\\bassert\\b|getMessage|hashCode");
        none(text, "Exact\\(|\"\" *\\+|\\+ *\"\"|while \\(true|for \\(;;|\\bvolatile\\b|extends \\w*Exception|Random|nanoTime");
        only(text, "\\b((?:Math|Integer|Long|Arrays|System|String|List|Double|Float|Character)\\.\\w+)", LIBRARY);
        only(text, "throw new (\\w+)", THROWN);
        CHECK.due("each throw is a new one", count(text, "\\bthrow\\b"), () -> count(text, "throw new \\w+\\(\"\"\\);"));
        shortMethods(text);
        CHECK.end();
    }

    private static void none(String text, String pattern) {
        Matcher matcher = Pattern.compile(pattern).matcher(text);
        String found = matcher.find() ? matcher.group() : "";
        CHECK.due("none of " + pattern, "", () -> found);
    }

    private static void only(String text, String pattern, String allowed) {
        Matcher matcher = Pattern.compile(pattern).matcher(text);
        while (matcher.find()) {
            String found = matcher.group(1);
            CHECK.due(found + " is in the language", true, () -> found.matches(allowed));
        }
    }

    private static long count(String text, String pattern) {
        return Pattern.compile(pattern).matcher(text).results().count();
    }

    /** A method begins and ends at the same depth, of four or of eight blanks. */
    private static void shortMethods(String text) {
        String[] lines = text.split("\n");
        int start = -1;
        for (int i = 0; i < lines.length; i++) {
            if (lines[i].matches(" {4}(?: {4})?\\w[^=;]*\\(.*") && !lines[i].contains(";")) {
                start = i;
            } else if (start >= 0 && lines[i].matches(" {4}(?: {4})?}")) {
                int length = i - start + 1;
                String method = lines[start].strip();
                CHECK.due("a short method: " + method, true, () -> length <= LONGEST_METHOD);
                start = -1;
            }
        }
    }
}
