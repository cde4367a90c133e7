import java.io.File;
import java.io.PrintWriter;
import java.io.StringWriter;
import java.util.ArrayDeque;
import java.util.HashMap;
import java.util.HashSet;
import java.util.Map;
import java.util.Set;
import java.util.TreeSet;
import java.util.regex.Matcher;
import java.util.regex.Pattern;
import java.util.spi.ToolProvider;

/** Which methods of a compiled class, and of those inside it, call which others. */
final class CallGraph {
    private static final Pattern HEADER = Pattern.compile("^ {2}[^ ].*?([\\w$.]+)\\(.*\\);$");
    private static final Pattern CALL =
            Pattern.compile("// (?:Interface)?Method (?:([\\w$/]+)\\.)?\"?([\\w<>]+)\"?:");

    private final Map<String, Set<String>> calls = new HashMap<>();
    private final Map<String, Integer> depths = new HashMap<>();
    private final ArrayDeque<String> open = new ArrayDeque<>();
    private String recursion = "";

    CallGraph(Class<?> outer) {
        String folder = outer.getProtectionDomain().getCodeSource().getLocation().getPath();
        for (String file : new TreeSet<>(Set.of(new File(folder).list()))) {
            if (file.startsWith(outer.getName()) && file.endsWith(".class")) {
                String name = file.substring(0, file.length() - ".class".length());
                add(name, codeOf(new File(folder, file)));
            }
        }
    }

    private static String codeOf(File file) {
        StringWriter told = new StringWriter();
        PrintWriter out = new PrintWriter(told);
        ToolProvider.findFirst("javap").orElseThrow().run(out, out, "-p", "-c", file.getPath());
        out.flush();
        return told.toString();
    }

    private void add(String className, String code) {
        String method = "";
        for (String line : code.split("\\R")) {
            Matcher header = HEADER.matcher(line);
            Matcher call = CALL.matcher(line);
            if (header.find()) {
                boolean made = header.group(1).equals(className);
                method = className + "." + (made ? "<init>" : header.group(1));
                calls.put(method, new HashSet<>());
            } else if (line.contains("invoke") && call.find()) {
                String owner = call.group(1) == null ? className : call.group(1);
                calls.get(method).add(owner + "." + call.group(2));
            }
        }
    }

    int methods() {
        return calls.size();
    }

    /** How many methods stand open at most, from this one on; those of the library are none. */
    int depth(String method) {
        Integer known = depths.get(method);
        if (known != null) {
            return known;
        }
        if (!calls.containsKey(method)) {
            return 0;
        }
        if (open.contains(method)) {
            recursion = method;
            return 0;
        }
        open.push(method);
        int deepest = 0;
        for (String called : calls.get(method)) {
            deepest = Math.max(deepest, depth(called));
        }
        open.pop();
        depths.put(method, deepest + 1);
        return deepest + 1;
    }

    Set<String> all() {
        return calls.keySet();
    }

    /** A method that calls itself over others; empty if there is none, as far as it was asked. */
    String recursion() {
        return recursion;
    }
}
