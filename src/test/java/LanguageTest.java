import java.io.IOException;
import java.nio.file.Files;
import java.nio.file.Path;
import java.util.ArrayList;
import java.util.List;
import java.util.Map;
import java.util.Set;
import java.util.TreeMap;
import java.util.TreeSet;
import java.util.regex.Matcher;
import java.util.regex.Pattern;

/**
 * Looks for breaches of LANGUAGE.md in the source, as far as text alone tells them.
 * It is run in the project's directory.
 */
final class LanguageTest {
    private static final int LONGEST_METHOD = 65, MOST_FIELDS = 42, MOST_PARAMETERS = 7, DEEPEST = 6;
    private static final Pattern CALL = Pattern.compile("\\b(\\w+)\\s*\\(");
    private static final Pattern ARRAY = Pattern.compile(
        "\\bnew\\s+(int|long|short|byte|char|boolean)\\s*\\[\\s*\\w+\\s*\\](?!\\s*\\[)");
    private static final Set<String> NOT_CALLS = Set.of("if", "for", "while", "switch", "return");

    private record Method(String head, String name, String parameters, String body) { }

    private static final List<Method> methods = new ArrayList<>();
    private static final List<String> fields = new ArrayList<>();
    private static final Map<String, Set<String>> callees = new TreeMap<>();

    public static void main(String[] args) throws IOException {
        String source = Files.readString(Path.of("src/main/java/TtyDiscipline.java"));
        String code = source.replaceAll("(?s)/\\*.*?\\*/", "").replaceAll("//[^\n]*", "");
        words(code);
        members(code.substring(code.indexOf('{') + 1, code.lastIndexOf('}')));
        Checks.due("members were found", methods.size() > 16 && fields.size() > 16, true);
        names();
        arrays();
        sizes();
        calls();
        depth();
        Checks.end();
    }

    private static void words(String code) {
        Matcher m = Pattern.compile("\\b(package|import|float|double|String|Object|Math|Integer|Long|System|Arrays"
            + "|null|throws?|try|catch|finally|synchronized|assert|instanceof|enum|record|interface|protected"
            + "|volatile|native|var|getClass|hashCode|equals|toString)\\b|->|::|\"|\\]\\s*\\[\\s*\\]").matcher(code);
        while (m.find()) {
            Checks.due("the word " + m.group(), true, false);
        }
        Checks.due("classes", count(code, "\\bclass\\b"), 1);
        Checks.due("static initialisers", count(code, "\\bstatic\\s*\\{"), 0);
    }

    /** Cuts the class into its methods and fields. */
    private static void members(String body) {
        int from = 0;
        for (int i = 0; i < body.length(); i++) {
            char c = body.charAt(i);
            if (c == ';') {
                fields.add(body.substring(from, i).strip());
                from = i + 1;
            } else if (c == '{') {
                int end = closing(body, i, '{', '}');
                String head = body.substring(from, i).strip();
                int open = head.indexOf('(');
                Checks.due("a block that is no method: " + head, open > 0, true);
                if (open > 0) {
                    String before = head.substring(0, open).strip();
                    methods.add(new Method(before, before.replaceAll(".*\\s", ""),
                        head.substring(open + 1, head.lastIndexOf(')')).strip(), body.substring(i + 1, end)));
                }
                i = end;
                from = end + 1;
            }
        }
    }

    private static int closing(String text, int from, char open, char close) {
        int depth = 0;
        for (int i = from; i < text.length(); i++) {
            depth += text.charAt(i) == open ? 1 : text.charAt(i) == close ? -1 : 0;
            if (depth == 0) {
                return i;
            }
        }
        throw new IllegalStateException("no end of " + open);
    }

    private static boolean isConstructor(Method m) {
        return m.name.equals("TtyDiscipline");
    }

    private static void names() {
        Set<String> open = new TreeSet<>();
        Set<String> closed = new TreeSet<>();
        for (Method m : methods) {
            (m.head.startsWith("private") ? closed : open).add(m.name);
        }
        closed.retainAll(open);
        Checks.due("private methods with the name of a public one", closed.toString(), "[]");
    }

    /** Arrays are made by fields and by the constructor alone, and no method gives a field another one. */
    private static void arrays() {
        for (Method m : methods) {
            int made = count(m.body, "\\bnew\\b");
            Checks.due("things made in " + m.name, made,
                isConstructor(m) ? (int) ARRAY.matcher(m.body).results().count() : 0);
            Checks.due("array answered by " + m.name, m.head.contains("["), false);
        }
        for (String field : fields) {
            Checks.due("things made in " + field, count(field, "\\bnew\\b"), ARRAY.matcher(field).results().count());
            Matcher name = Pattern.compile("\\[\\]\\s+(\\w+)").matcher(field);
            if (name.find()) {
                for (Method m : methods) {
                    Checks.due(m.name + " assigns to " + name.group(1), !isConstructor(m)
                        && count(m.body, "\\b" + name.group(1) + "\\s*=(?!=)") > 0, false);
                }
            }
        }
    }

    private static void sizes() {
        int own = 0;
        for (String field : fields) {
            if (!field.contains("static")) {
                own += field.split(",").length;
            }
        }
        Checks.due("fields are few", own <= MOST_FIELDS, true);
        for (Method m : methods) {
            Checks.due("length of " + m.name, m.body.split("\n").length <= LONGEST_METHOD, true);
            Checks.due("parameters of " + m.name, m.parameters.split(",").length <= MOST_PARAMETERS, true);
        }
    }

    private static void calls() {
        for (Method m : methods) {
            Set<String> called = callees.computeIfAbsent(m.name, name -> new TreeSet<>());
            Matcher call = CALL.matcher(m.body);
            while (call.find()) {
                if (!NOT_CALLS.contains(call.group(1))) {
                    called.add(call.group(1));
                    int end = closing(m.body, call.end() - 1, '(', ')');
                    Checks.due("a call in arguments in " + m.name,
                        CALL.matcher(m.body.substring(call.end(), end)).find(), false);
                }
            }
        }
    }

    /** Six levels are looked at, the public method being the first; a seventh is too deep, or recursion. */
    private static void depth() {
        for (String start : callees.keySet()) {
            Set<String> level = Set.of(start);
            for (int deep = 1; deep <= DEEPEST; deep++) {
                Set<String> below = new TreeSet<>();
                for (String name : level) {
                    Checks.due(name + " is a method of the class", callees.containsKey(name), true);
                    below.addAll(callees.getOrDefault(name, Set.of()));
                }
                level = below;
            }
            Checks.due("calls below level " + DEEPEST + " of " + start, level.toString(), "[]");
        }
    }

    private static int count(String code, String pattern) {
        return (int) Pattern.compile(pattern).matcher(code).results().count();
    }
}
