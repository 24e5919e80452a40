import java.io.PrintWriter;
import java.io.StringWriter;
import java.util.HashMap;
import java.util.HashSet;
import java.util.Map;
import java.util.Optional;
import java.util.Set;
import java.util.regex.Matcher;
import java.util.regex.Pattern;
import java.util.spi.ToolProvider;

/** Rule 11 of LANGUAGE.md: calls that are no recursion go at most eight deep, read from the compiled class. */
public final class DepthTest {
    private static final Pattern METHOD = Pattern.compile("^  (?:[\\w\\[\\]. $]+ )?([\\w$.]+)\\(.*\\).*;$");
    private static final Pattern CALL = Pattern.compile("invoke\\w+ +#\\d+.*// Method ([^ :]+):");

    private static final Map<String, Set<String>> CALLS = new HashMap<>();

    public static void main(String[] args) {
        Optional<ToolProvider> javap = ToolProvider.findFirst("javap");
        if (javap.isEmpty()) {
            System.out.println("this machine has no javap");
            return;
        }
        read(javap.get(), "PassagePicker");
        for (Class<?> nested : PassagePicker.class.getDeclaredClasses()) {
            read(javap.get(), nested.getName());
        }
        Check.yes("the methods are found", CALLS.size() > 100);
        for (String method : CALLS.keySet()) {
            if (method.startsWith("PassagePicker.")) {
                int depth = depth(method, new HashSet<>());
                Check.yes(method + " goes " + depth + " deep", depth <= 8);
            }
        }
        Check.finish();
    }

    private static void read(ToolProvider javap, String name) {
        StringWriter text = new StringWriter();
        PrintWriter out = new PrintWriter(text);
        javap.run(out, out, "-c", "-p", "-cp", System.getProperty("java.class.path"), name);
        String method = null;
        for (String line : text.toString().split("\\R")) {
            Matcher begin = METHOD.matcher(line);
            Matcher call = CALL.matcher(line);
            if (begin.matches()) {
                method = name + "." + (begin.group(1).equals(name) ? "<init>" : begin.group(1));
                CALLS.put(method, new HashSet<>());
            } else if (method != null && call.find()) {
                String called = call.group(1).replace("\"", "");
                CALLS.get(method).add(called.contains(".") ? called : name + "." + called);
            }
        }
    }

    private static int depth(String method, Set<String> open) {
        if (!open.add(method)) {
            return 0;
        }
        int deepest = 0;
        for (String called : CALLS.getOrDefault(method, Set.of())) {
            deepest = Math.max(deepest, depth(called, open));
        }
        open.remove(method);
        return deepest + 1;
    }
}
