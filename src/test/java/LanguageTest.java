import java.io.IOException;
import java.nio.file.Files;
import java.nio.file.Path;
import java.util.List;
import java.util.regex.Matcher;
import java.util.regex.Pattern;

/** The text of the class keeps to the rules of ../shared/LANGUAGE.md that a text can show. Run it in the checkout. */
public final class LanguageTest {
    private static final Check CHECK = new Check("LanguageTest");
    private static final int LONGEST_METHOD = 60;
    private static final List<String> IMPORTS =
        List.of("import java.util.Arrays;", "import java.util.NoSuchElementException;");
    private static final List<String> LIBRARY = List.of("Math.min", "Math.max", "Integer.bitCount", "Arrays.fill",
        "System.arraycopy");
    private static final List<String> THROWN = List.of("IllegalStateException", "IllegalArgumentException",
        "IndexOutOfBoundsException", "ArithmeticException", "NoSuchElementException");

    public static void main(String[] args) throws IOException {
        List<String> lines = Files.readAllLines(Path.of("src/main/java/Queueward.java"));
        StringBuilder code = new StringBuilder();
        for (String line : lines) {
            CHECK.due("only signs from 32 to 126 in " + line, true, () -> line.chars().allMatch(c -> c >= 32 && c < 127));
            if (line.startsWith("import")) {
                CHECK.due("an import", true, () -> IMPORTS.contains(line));
            } else if (!line.strip().startsWith("*") && !line.strip().startsWith("/*")) {
                code.append(line.replaceAll("//.*", "")).append('\n');
            }
        }
        String text = code.toString().replaceAll("\"[^\"\n]*\"", "\"\"");
        none(text, "package|->|::|\\btry\\b|\\bcatch\\b|\\bfinally\\b|synchronized|\\bassert\\b|instanceof|\\bvar\\b");
        none(text, "Exact\\(|\\bLong\\.|\"\" *\\+|\\+ *\"\"|while \\(true|for \\(;;|\\bvolatile\\b|\\brecord\\b|@");
        only(text, "\\b((?:Math|Integer|Arrays|System|String|List|Double|Float|Character)\\.\\w+)", LIBRARY);
        only(text, "throw new (\\w+)", THROWN);
        CHECK.due("each throw is a new one", count(text, "\\bthrow\\b"), () -> count(text, "throw new \\w+\\(\"\"\\);"));
        shortMethods(text);
        CHECK.end();
    }

    private static void none(String text, String pattern) {
        Matcher matcher = Pattern.compile(pattern).matcher(text);
        String found = matcher.find() ? matcher.group() : "";
        CHECK.due("none of " + pattern, "", () -> found);
    }

    private static void only(String text, String pattern, List<String> allowed) {
        Matcher matcher = Pattern.compile(pattern).matcher(text);
        while (matcher.find()) {
            String found = matcher.group(1);
            CHECK.due(found + " is in the language", true, () -> allowed.contains(found));
        }
    }

    private static long count(String text, String pattern) {
        return Pattern.compile(pattern).matcher(text).results().count();
    }

    /** A method begins and ends at the same depth, of four or of eight blanks. */
    private static void shortMethods(String text) {
        String[] lines = text.split("\n");
        int start = -1;
        for (int i = 0; i < lines.length; i++) {
            if (lines[i].matches(" {4}(?: {4})?\\w[^=;]*\\(.*") && !lines[i].contains(";")) {
                start = i;
            } else if (start >= 0 && lines[i].matches(" {4}(?: {4})?}")) {
                int length = i - start + 1;
                String method = lines[start].strip();
                CHECK.due("a short method: " + method, true, () -> length <= LONGEST_METHOD);
                start = -1;
            }
        }
    }
}
