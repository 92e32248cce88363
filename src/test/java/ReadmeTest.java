import java.io.IOException;
import java.net.URL;
import java.net.URLClassLoader;
import java.nio.file.Files;
import java.nio.file.Path;
import java.util.ArrayList;
import java.util.List;
import java.util.regex.Matcher;
import java.util.regex.Pattern;
import java.util.stream.Stream;
import javax.tools.ToolProvider;

/** README.md: its example answers what it says, and no call and no test is left out. */
final class ReadmeTest {
    private static final Path README = Path.of("README.md");
    private static final String FACE = "type mint begin publish call argument weave unweave execute told code result account "
        + "coins places resource byteOf root slips";

    private ReadmeTest() {
    }

    public static void main(String[] args) throws Exception {
        String text = Files.readString(README);
        exampleAnswers(text);
        namesAll(text);
        Check.end();
    }

    /** Rows of the example are a call and, behind it, its answer and why. */
    private static void exampleAnswers(String text) throws Exception {
        Matcher row = Pattern.compile("(?m)^(ledger\\.\\w+\\(.*\\)); +// ([-\\w]+):").matcher(text);
        List<String> calls = new ArrayList<>();
        List<String> due = new ArrayList<>();
        while (row.find()) {
            calls.add(row.group(1));
            due.add(row.group(2));
        }
        Check.due("rows with answers", calls.size() >= 10, true);
        Check.due("rows in all", calls.size(), Pattern.compile("(?m)^ledger\\.").matcher(text).results().count());
        Object[] got = run(calls);
        for (int i = 0; i < got.length; i++) {
            Check.due(calls.get(i), String.valueOf(got[i]), due.get(i));
        }
    }

    private static Object[] run(List<String> calls) throws Exception {
        Path out = Files.createTempDirectory("readme");
        Path file = out.resolve("Example.java");
        Files.writeString(file, "public class Example { public static Object[] answers() {"
            + " ResourceLedger ledger = new ResourceLedger(4); return new Object[] {" + String.join(", ", calls) + "}; } }");
        String classes = System.getProperty("java.class.path");
        int ended = ToolProvider.getSystemJavaCompiler().run(null, null, null, "-cp", classes, "-d", out.toString(),
            file.toString());
        Check.due("the example compiles", ended, 0);
        file.toFile().delete();
        out.toFile().deleteOnExit();
        out.resolve("Example.class").toFile().deleteOnExit();
        try (URLClassLoader loader = new URLClassLoader(new URL[] {out.toUri().toURL()})) {
            return (Object[]) loader.loadClass("Example").getMethod("answers").invoke(null);
        }
    }

    private static void namesAll(String text) throws IOException {
        for (String name : FACE.split(" ")) {
            Check.due("calls with the name " + name, Pattern.compile("\\b" + name + "\\(").matcher(text).find(), true);
        }
        try (Stream<Path> files = Files.list(Path.of("src/test/java"))) {
            files.map(file -> file.getFileName().toString().replace(".java", "")).filter(name -> name.endsWith("Test"))
                .forEach(name -> Check.due("tests with the name " + name, text.contains("`" + name + "`"), true));
        }
    }
}
