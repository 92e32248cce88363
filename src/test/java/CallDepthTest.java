import java.io.File;
import java.io.PrintWriter;
import java.io.StringWriter;
import java.nio.file.Path;
import java.util.HashMap;
import java.util.HashSet;
import java.util.Map;
import java.util.Optional;
import java.util.Set;
import java.util.TreeMap;
import java.util.regex.Matcher;
import java.util.regex.Pattern;
import java.util.spi.ToolProvider;

/** LANGUAGE.md, rules 8 and 11: how deep calls go, how many parameters and fields there are, and who calls itself. */
final class CallDepthTest {
    private static final Pattern METHOD = Pattern.compile("^  \\S.*?([\\w$.]+)\\(([^)]*)\\);$");
    private static final Pattern FIELD = Pattern.compile("^  (?!.*static )\\S[^(]*;$");
    private static final Pattern CALL = Pattern.compile("// (?:Interface)?Method (?:([\\w$/]+)\\.)?\"?(<?\\w+>?)\"?:");
    // Their own depth is an argument, so these go round by themselves.
    private static final Set<String> ROUND = Set.of("sizeAt", "copyAt", "alikeAt", "storeNode", "loadNode");

    private final Map<String, Set<String>> calls = new TreeMap<>();
    private final Map<String, Integer> depths = new HashMap<>();

    public static void main(String[] args) {
        Optional<ToolProvider> javap = ToolProvider.findFirst("javap");
        if (javap.isEmpty()) {
            Check.due("no javap here, so nothing is looked at", 0, 0);
            Check.end();
            return;
        }
        CallDepthTest test = new CallDepthTest();
        int classes = 0;
        for (String part : System.getProperty("java.class.path").split(File.pathSeparator)) {
            File[] files = Path.of(part).toFile().listFiles((where, name) -> name.matches("ResourceLedger(\\$\\w+)?\\.class"));
            for (File file : files == null ? new File[0] : files) {
                test.read(javap.get(), file);
                classes++;
            }
        }
        Check.due("some twelve classes: " + classes, classes >= 2 && classes <= 12, true);
        int deepest = 0;
        for (String method : test.calls.keySet()) {
            deepest = Math.max(deepest, test.depth(method, new HashSet<>()));
        }
        Check.due("calls go at most eight deep: " + deepest, deepest >= 4 && deepest <= 8, true);
        Check.end();
    }

    private void read(ToolProvider javap, File file) {
        StringWriter text = new StringWriter();
        javap.run(new PrintWriter(text), new PrintWriter(System.err), "-c", "-p", file.getPath());
        String own = file.getName().replace(".class", "");
        String method = "";
        int fields = 0;
        for (String line : text.toString().split("\\R")) {
            Matcher m = METHOD.matcher(line);
            if (m.find()) {
                method = own + "." + (m.group(1).equals(own) ? "<init>" : m.group(1));
                calls.putIfAbsent(method, new HashSet<>());
                int parameters = m.group(2).isEmpty() ? 0 : m.group(2).split(",").length;
                Check.due(method + " has few parameters: " + parameters, parameters <= 7, true);
            } else if (FIELD.matcher(line).find()) {
                fields++;
            }
            Matcher call = CALL.matcher(line);
            if (call.find()) {
                String home = call.group(1) == null ? own : call.group(1);
                calls.get(method).add(home + "." + call.group(2));
            }
        }
        Check.due(own + " has some twenty fields: " + fields, fields <= 22, true);
    }

    private int depth(String method, Set<String> open) {
        if (!method.startsWith("ResourceLedger")) {
            return 0;
        }
        Integer known = depths.get(method);
        if (known != null) {
            return known;
        }
        int most = 0;
        open.add(method);
        for (String other : calls.getOrDefault(method, Set.of())) {
            String name = method.substring(method.indexOf('.') + 1);
            if (other.equals(method) && ROUND.contains(name)) {
                continue;
            }
            Check.due(method + " calls " + other + " which is not open", open.contains(other), false);
            most = open.contains(other) ? most : Math.max(most, depth(other, open));
        }
        open.remove(method);
        depths.put(method, most + 1);
        return most + 1;
    }
}
