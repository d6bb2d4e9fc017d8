import java.io.IOException;
import java.nio.file.Files;
import java.nio.file.Path;
import java.util.Map;
import java.util.Set;
import java.util.TreeMap;
import java.util.TreeSet;
import java.util.regex.Matcher;
import java.util.regex.Pattern;

/**
 * Looks for breaches of LANGUAGE.md in the source, as far as text alone tells them.
 * It is run in the project's directory.
 */
final class LanguageTest {
    private static final Pattern METHOD = Pattern.compile(
        "(?m)^    (?:public|private) (?:static )?(?:(?:void|int|boolean|long) )?(\\w+)\\(([^)]*)\\) \\{$(?s:(.*?))^    \\}$");
    private static final Pattern CALL = Pattern.compile("\\b(\\w+)\\(");
    private static final Set<String> NOT_CALLS = Set.of("if", "for", "while", "switch", "return");

    private static final Map<String, Set<String>> callees = new TreeMap<>();

    public static void main(String[] args) throws IOException {
        String source = Files.readString(Path.of("src/main/java/TtyDiscipline.java"));
        String code = source.replaceAll("(?s)/\\*.*?\\*/", "").replaceAll("//[^\n]*", "");
        words(code);
        arrays(code);
        methods(code);
        depth();
        Checks.end();
    }

    private static void words(String code) {
        Matcher m = Pattern.compile("\\b(package|import|float|double|String|Object|Math|Integer|Long|System|Arrays"
            + "|null|throws?|try|catch|finally|synchronized|assert|instanceof|enum|record|interface|protected"
            + "|volatile|native|var|getClass|hashCode|equals|toString)\\b|->|::|\"|'|\\[\\]\\s*\\[\\]").matcher(code);
        while (m.find()) {
            Checks.due("the word " + m.group(), true, false);
        }
        Checks.due("classes", count(code, "\\bclass\\b"), 1);
    }

    /** Every "new" is a field's initialiser; nothing is assigned to an array field later. */
    private static void arrays(String code) {
        Matcher field = Pattern.compile("(?m)^    private final int\\[\\] (\\w+) = new int\\[\\w+\\];$").matcher(code);
        int arrays = 0;
        while (field.find()) {
            arrays++;
            String assigned = "(?<![\\w\\]] )\\b" + field.group(1) + " = ";
            Checks.due("assignments to " + field.group(1), count(code, assigned), 0);
        }
        Checks.due("arrays made", count(code, "\\bnew\\b"), arrays);
        Checks.due("fields are few", count(code, "(?m)^    private (?!static)[^(]*;$") <= 40, true);
    }

    private static void methods(String code) {
        Matcher m = METHOD.matcher(code);
        while (m.find()) {
            String name = m.group(1);
            Checks.due("a second method " + name, callees.containsKey(name), false);
            Checks.due("length of " + name, m.group(3).split("\n").length <= 60, true);
            Checks.due("parameters of " + name, m.group(2).split(",").length <= 7, true);
            Set<String> called = new TreeSet<>();
            Matcher call = CALL.matcher(m.group(3));
            while (call.find()) {
                if (!NOT_CALLS.contains(call.group(1))) {
                    called.add(call.group(1));
                    Checks.due("calls in arguments in " + name,
                        CALL.matcher(arguments(m.group(3), call.end())).find(), false);
                }
            }
            callees.put(name, called);
        }
        Checks.due("all methods were seen", callees.size(),
            count(code, "(?m)^    (public|private) [^=;\n]*\\("));
    }

    private static String arguments(String body, int from) {
        int open = 1;
        int end = from;
        while (open > 0) {
            char c = body.charAt(end++);
            open += c == '(' ? 1 : c == ')' ? -1 : 0;
        }
        return body.substring(from, end - 1);
    }

    /** Six levels of callees are looked at; a seventh is too deep, or recursion. */
    private static void depth() {
        for (String start : callees.keySet()) {
            Set<String> level = Set.of(start);
            for (int deep = 1; deep <= 6; deep++) {
                Set<String> below = new TreeSet<>();
                for (String name : level) {
                    Checks.due(name + " is a method of the class", callees.containsKey(name), true);
                    below.addAll(callees.getOrDefault(name, Set.of()));
                }
                level = below;
            }
            Checks.due("calls below level six of " + start, level.toString(), "[]");
        }
    }

    private static int count(String code, String pattern) {
        return (int) Pattern.compile(pattern).matcher(code).results().count();
    }
}
