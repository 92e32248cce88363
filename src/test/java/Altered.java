import java.io.File;
import java.io.IOException;
import java.net.URL;
import java.net.URLClassLoader;
import java.nio.file.Files;
import java.nio.file.Path;
import java.util.ArrayList;
import java.util.List;
import java.util.function.UnaryOperator;
import javax.tools.ToolProvider;

/** Runs a test with the class compiled from an altered text, for what no calls are known to come to. */
final class Altered {
    private Altered() {
    }

    /** The test's main once more, with an argument, among classes of which ResourceLedger alone is another one. */
    static void run(String test, String argument, UnaryOperator<String> change) throws Exception {
        Path out = Files.createTempDirectory("altered");
        compile(out, change);
        removeAtEnd(out);
        List<URL> urls = new ArrayList<>();
        urls.add(out.toUri().toURL());
        for (String part : System.getProperty("java.class.path").split(File.pathSeparator)) {
            urls.add(Path.of(part).toUri().toURL());
        }
        URL[] all = urls.toArray(new URL[0]);
        try (URLClassLoader classes = new URLClassLoader(all, ClassLoader.getPlatformClassLoader())) {
            Class<?> again = classes.loadClass(test);
            again.getMethod("main", String[].class).invoke(null, (Object) new String[] {argument});
        }
    }

    static String replaceOnce(String text, String old, String other) {
        if (text.indexOf(old) < 0 || text.indexOf(old) != text.lastIndexOf(old)) {
            throw new IllegalStateException("The class has no one place with " + old);
        }
        return text.replace(old, other);
    }

    private static void compile(Path out, UnaryOperator<String> change) throws IOException {
        Path file = out.resolve("ResourceLedger.java");
        Files.writeString(file, change.apply(Files.readString(Path.of("src/main/java/ResourceLedger.java"))));
        int ended = ToolProvider.getSystemJavaCompiler().run(null, null, null, "-d", out.toString(), file.toString());
        if (ended != 0) {
            throw new IllegalStateException("The altered class does not compile.");
        }
    }

    private static void removeAtEnd(Path out) {
        // What is told last is removed first, so the directory comes before its files.
        out.toFile().deleteOnExit();
        for (File file : out.toFile().listFiles()) {
            file.deleteOnExit();
        }
    }
}
