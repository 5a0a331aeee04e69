import java.lang.reflect.InvocationTargetException;
import java.net.URL;
import java.net.URLClassLoader;
import java.nio.file.Files;
import java.nio.file.Path;
import java.util.List;
import java.util.regex.Matcher;
import java.util.regex.Pattern;

/** The calls that README.md offers to be copied compile as they stand, and answer what it says. */
public final class ReadmeTest {
    private static final Check CHECK = new Check("ReadmeTest");
    private static final Pattern ANSWERED = Pattern.compile("x\\.(\\w+)\\(.*\\);(?= *// ([^ :]+)(?::.*)?$)");
    private static final String NAME = "ReadmeCalls";

    /** What the generated source calls: the place in README.md, the answer told there, and the call. */
    public static void look(String place, String want, java.util.function.Supplier<Object> call) {
        Object answer = Check.answerOf(call::get);
        String got = answer instanceof Class ? ((Class<?>) answer).getSimpleName() : String.valueOf(answer);
        CHECK.due(place, want, () -> got);
    }

    public static void main(String[] args) throws Exception {
        List<String> lines = Files.readAllLines(Path.of("README.md"));
        eachCallStandsThere(lines);
        run(sourceOf(lines));
        CHECK.end();
    }

    private static void eachCallStandsThere(List<String> lines) {
        String text = String.join("\n", lines);
        for (java.lang.reflect.Method method : Queueward.class.getMethods()) {
            if (method.getDeclaringClass() == Queueward.class) {
                CHECK.due("README.md shows " + method.getName(), true,
                    () -> text.contains("\nx." + method.getName() + "("));
            }
        }
    }

    /** Each block of code becomes a method of its own, and each call with an answer behind it a look. */
    private static String sourceOf(List<String> lines) {
        StringBuilder source = new StringBuilder("public final class " + NAME + " {\n");
        StringBuilder calls = new StringBuilder();
        boolean isCode = false;
        for (int i = 0; i < lines.size(); i++) {
            String line = lines.get(i);
            if (line.equals("```java")) {
                isCode = true;
                source.append("static void block").append(i).append("() {\n");
                calls.append("block").append(i).append("();\n");
            } else if (isCode && line.equals("```")) {
                isCode = false;
                source.append("}\n");
            } else if (isCode) {
                source.append(lookOf(line, i + 1)).append('\n');
            }
        }
        return source + "public static void run() {\n" + calls + "}\n}\n";
    }

    private static String lookOf(String line, int number) {
        Matcher matcher = ANSWERED.matcher(line);
        if (!matcher.lookingAt()) {
            CHECK.due("line " + number + " of README.md tells an answer", false, () -> line.startsWith("x."));
            return line;
        }
        String call = matcher.group().substring(0, matcher.group().length() - 1);
        return "ReadmeTest.look(\"line " + number + " of README.md, " + matcher.group(1) + "\", \"" + matcher.group(2)
            + "\", () -> " + call + ");";
    }

    private static void run(String source) throws Exception {
        Path folder = Files.createTempDirectory("readme");
        Path file = folder.resolve(NAME + ".java");
        Files.writeString(file, source);
        int status = new ProcessBuilder("javac", "-cp", System.getProperty("java.class.path"),
            "-d", folder.toString(), file.toString()).inheritIO().start().waitFor();
        CHECK.due("the calls of README.md compile", 0, () -> status);
        if (status == 0) {
            try (URLClassLoader loader = new URLClassLoader(new URL[] {folder.toUri().toURL()})) {
                loader.loadClass(NAME).getMethod("run").invoke(null);
            } catch (InvocationTargetException e) {
                CHECK.due("a line without an answer threw", "nothing", () -> e.getCause().toString());
            }
        }
        Files.deleteIfExists(folder.resolve(NAME + ".class"));
        Files.delete(file);
        Files.delete(folder);
    }
}
