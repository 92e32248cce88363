import java.io.IOException;
import java.nio.file.Files;
import java.nio.file.Path;
import java.util.regex.Matcher;
import java.util.regex.Pattern;

/** Some rules of LANGUAGE.md that can be seen in the text of the class. */
final class LanguageTest {
    private LanguageTest() {
    }

    public static void main(String[] args) throws IOException {
        String text = Files.readString(Path.of("src/main/java/ResourceLedger.java"))
            .replaceAll("(?s)/\\*.*?\\*/", "").replaceAll("//.*", "");
        String[] ruledOut = {"\\bthrow\\b", "\\btry\\b", "\\bcatch\\b", "\\bsynchronized\\b", "\\bassert\\b", "->", "::",
            "\\bpackage\\b", "\\bprotected\\b", "\\binstanceof\\b", "System\\.(?!arraycopy)", "\\bdouble\\b", "Exact\\b",
            "static \\{", "\\bThread\\b", "\\bRandom\\b", "\\bLong\\.M", "\\bInteger\\.M"};
        for (String word : ruledOut) {
            Check.due("uses of " + word, count(text, word), 0);
        }
        Check.due("imports", count(text, "(?m)^import "), 1);
        Check.due("Arrays", count(text, "(?m)^import java\\.util\\.Arrays;"), 1);
        Check.due("Arrays' functions", count(text, "Arrays\\.(?!copyOf\\b|copyOfRange\\b|fill\\b)"), 0);
        Check.due("static fields are final", count(text, "static (?!final|int|long|boolean|String)"), 0);
        int classes = count(text, "\\bclass \\w+");
        Check.due("some twelve classes: " + classes, classes <= 12, true);
        String face = "type mint begin publish call argument weave unweave execute told code result account coins places "
            + "resource byteOf root slips";
        for (String name : face.split(" ")) {
            Check.due("public " + name, count(text, "(?m)^    public \\w+ " + name + "\\("), 1);
            Check.due("no other method " + name, count(text, "(?m)^ +(?!public)(\\w+ )*\\w+ " + name + "\\([^;]*\\) \\{"), 0);
        }
        Check.due("public members", count(text, "(?m)^ +public "), 23);
        int longest = 0;
        Matcher methods = Pattern.compile("(?ms)^( +)[^\\n;]*\\) \\{\\n(.*?)^\\1\\}").matcher(text);
        while (methods.find()) {
            longest = Math.max(longest, methods.group(2).split("\n").length);
        }
        Check.due("methods stay short: " + longest, longest > 20 && longest <= 60, true);
        Check.end();
    }

    private static int count(String text, String pattern) {
        Matcher m = Pattern.compile(pattern).matcher(text);
        int n = 0;
        while (m.find()) {
            n++;
        }
        return n;
    }
}
