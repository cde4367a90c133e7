import java.io.IOException;
import java.lang.reflect.Method;
import java.lang.reflect.Modifier;
import java.nio.file.Files;
import java.nio.file.Path;
import java.util.HashSet;
import java.util.List;
import java.util.Set;
import java.util.regex.Matcher;
import java.util.regex.Pattern;

/** The rules of the language that can be seen from the program's text and its classes. */
public final class LanguageTest {
    private static final Report REPORT = new Report();
    private static final Path SOURCE = Path.of("src/main/java/LadderLots.java");
    private static final int MOST_LINES = 60;
    private static final int MOST_PARAMETERS = 7;
    private static final int MOST_FIELDS = 20;
    private static final int MOST_DEPTH = 8;

    private static String withoutTexts(String source) {
        return source.replaceAll("(?s)/\\*.*?\\*/", "").replaceAll("//[^\n]*", "")
                .replaceAll("\"[^\"\n]*\"", "TEXT").replaceAll("'[^'\n]+'", "SIGN");
    }

    private static void testWords(String code) {
        REPORT.begin("words that the language leaves out");
        String[] out = {"throw", "throws", "try", "catch", "finally", "synchronized", "assert",
            "package", "abstract", "var", "transient", "volatile", "native", "protected",
            "System\\.(?!arraycopy)", "Math\\.\\w+Exact", "->", "::", "@", "\\brecord\\b",
            "\\bequals\\b", "\\bhashCode\\b", "\\btoString\\b", "TEXT *\\+", "\\+ *TEXT",
            "static *\\{", "while *\\(true", "for *\\(;;"};
        for (String word : out) {
            String pattern = word.matches("\\w+") ? "\\b" + word + "\\b" : word;
            REPORT.holds("no " + word, !Pattern.compile(pattern).matcher(code).find());
        }
        Matcher imports = Pattern.compile("import ([^;]*);").matcher(code);
        while (imports.find()) {
            REPORT.holds("import of " + imports.group(1),
                    imports.group(1).equals("java.util.Arrays"));
        }
        REPORT.holds("signs of a text file", code.chars().allMatch(c -> c < 127));
        REPORT.end();
    }

    private static void testLibrary(String code) {
        REPORT.begin("of the library's classes only the functions that the language lists");
        Set<String> listed = Set.of("System.arraycopy(", "Arrays.copyOf(", "Arrays.copyOfRange(",
                "Arrays.fill(", "List.of(");
        Matcher used = Pattern.compile("(?<![\\w.])([A-Z]\\w*[a-z]\\w*)\\.(\\w+\\(?)").matcher(code);
        Set<String> own = new HashSet<>();
        for (Class<?> inside : LadderLots.class.getDeclaredClasses()) {
            own.add(inside.getSimpleName());
        }
        while (used.find()) {
            String member = used.group(1) + "." + used.group(2);
            boolean ofNumbers = member.matches("(Integer|Long|Math)\\.\\w+\\(");
            REPORT.holds(member, own.contains(used.group(1)) || ofNumbers
                    || listed.contains(member));
        }
        REPORT.end();
    }

    private static void testMethodLengths(List<String> lines) {
        REPORT.begin("methods are short");
        Pattern start = Pattern.compile("^( {4}| {8})(?! )[\\w\\[\\]<> ]+\\([^;]*\\{$");
        for (int i = 0; i < lines.size(); i++) {
            Matcher matcher = start.matcher(lines.get(i));
            boolean method = matcher.find() && !lines.get(i).contains(" class ");
            if (method) {
                int end = i;
                while (end < lines.size() && !lines.get(end).equals(matcher.group(1) + "}")) {
                    end++;
                }
                REPORT.holds(lines.get(i).trim() + " has " + (end - i), end - i <= MOST_LINES);
            }
        }
        REPORT.end();
    }

    private static void testClasses() {
        REPORT.begin("names, parameters and fields of the classes inside");
        Set<String> face = new HashSet<>();
        for (Method method : LadderLots.class.getDeclaredMethods()) {
            if (Modifier.isPublic(method.getModifiers())) {
                face.add(method.getName());
            }
        }
        for (Class<?> inside : LadderLots.class.getDeclaredClasses()) {
            for (Method method : inside.getDeclaredMethods()) {
                String name = inside.getSimpleName() + "." + method.getName();
                REPORT.holds("a name of the face: " + name, !face.contains(method.getName()));
                REPORT.holds(name, method.getParameterCount() <= MOST_PARAMETERS);
            }
            long fields = List.of(inside.getDeclaredFields()).stream()
                    .filter(field -> !Modifier.isStatic(field.getModifiers())).count();
            REPORT.holds("fields of " + inside.getSimpleName(), fields <= MOST_FIELDS);
        }
        REPORT.end();
    }

    private static void testCalls() {
        REPORT.begin("calls are no recursion and go no deeper than eight");
        CallGraph graph = new CallGraph(LadderLots.class);
        REPORT.holds("methods seen: " + graph.methods(), graph.methods() > 150);
        for (String method : graph.all()) {
            int depth = graph.depth(method);
            REPORT.holds(method + " goes " + depth + " deep", depth <= MOST_DEPTH);
        }
        REPORT.holds("recursion of " + graph.recursion(), graph.recursion().isEmpty());
        REPORT.end();
    }

    private static void testWhatIsMade(List<String> lines) {
        REPORT.begin("objects and arrays are made in constructors alone");
        Pattern constructor = Pattern.compile("^( {4}| {8})(?! )(?:public )?([A-Z]\\w*)\\([^;]*\\{$");
        String indent = null;
        for (String line : lines) {
            Matcher matcher = constructor.matcher(line);
            if (matcher.find()) {
                indent = matcher.group(1);
            } else if (indent != null && line.equals(indent + "}")) {
                indent = null;
            }
            boolean makes = line.matches(".*\\bnew [A-Z]?\\w+[(\\[].*");
            REPORT.holds("made in a constructor: " + line.trim(), !makes || indent != null);
        }
        REPORT.end();
    }

    public static void main(String[] args) throws IOException {
        String source = Files.readString(SOURCE);
        List<String> lines = Files.readAllLines(SOURCE);
        String code = withoutTexts(source);
        testWords(code);
        testLibrary(code);
        testMethodLengths(lines);
        testClasses();
        testCalls();
        testWhatIsMade(lines);
        REPORT.exit();
    }
}
