import java.io.IOException;
import java.lang.reflect.Field;
import java.lang.reflect.Method;
import java.lang.reflect.Modifier;
import java.nio.file.Files;
import java.nio.file.Path;
import java.util.ArrayDeque;
import java.util.ArrayList;
import java.util.Deque;
import java.util.HashSet;
import java.util.List;
import java.util.Map;
import java.util.Set;
import java.util.TreeMap;
import java.util.regex.Matcher;
import java.util.regex.Pattern;

/** The rules of LANGUAGE.md that the class's words and members show, each by its number. */
public final class LanguageTest {
    private static final Path PROGRAM = Path.of("src/main/java/RoundedFloats.java");
    private static final String TYPES = "int|long|short|byte|char|boolean";
    private static final int MOST_FIELDS = 40;
    private static final int MOST_PARAMETERS = 7;
    private static final int MOST_LINES = 60;
    private static final int MOST_DEPTH = 6;

    private static int wrong = 0;

    private static void rule(int number, boolean kept, String what) {
        if (!kept) {
            wrong++;
            System.out.println("rule " + number + ": " + what);
        }
    }

    /** Comments may say any word. */
    private static String codeOf(String source) {
        return source.replaceAll("(?s)/\\*.*?\\*/", "").replaceAll("//[^\n]*", "");
    }

    private static void hasNone(int number, String code, String pattern) {
        Matcher found = Pattern.compile(pattern).matcher(code);
        rule(number, !found.find(), "the program has a place like " + pattern);
    }

    private static void words(String code) {
        hasNone(1, code, "\\b(package|interface|enum|record|protected)\\b");
        hasNone(1, code, "(?s)\\bclass\\b.*\\bclass\\b");
        hasNone(2, code, "\\b(float|double|var)\\b|[\"']");
        hasNone(3, code, "\\bimport\\b");
        // Constants are all capitals, so any other name with a capital at its start is a class.
        hasNone(3, code, "\\b(?!RoundedFloats\\b)[A-Z]\\w*[a-z]");
        hasNone(3, code, "\\b(?!this\\.)\\w+\\.(?!length\\b)\\w");
        hasNone(4, code, "\\bnull\\b");
        hasNone(5, code, "\\bstatic\\s*\\{");
        hasNone(6, code, "\\b(throw|throws|try|catch|finally|synchronized|assert|instanceof)\\b|->|::");
    }

    private static void arrays(String code) {
        int made = code.split("\\bnew\\b", -1).length - 1;
        Matcher inFields = Pattern.compile("(?m)^    private final (?:" + TYPES + ")\\[\\] \\w+ = new (?:" + TYPES
            + ")\\[[A-Z_0-9]+\\];$").matcher(code);
        rule(4, made == inFields.results().count(), "something is made elsewhere than in a field's initialiser");
    }

    /** Whether a name stands before the bracket, which then opens the arguments of a call. */
    private static boolean opensCall(String code, int bracket) {
        return code.substring(0, bracket).matches("(?s).*\\b(?!(if|for|while|switch|return)$)[a-z]\\w*$");
    }

    private static void callsInArguments(String code) {
        Deque<Boolean> open = new ArrayDeque<>();
        for (int i = 0; i < code.length(); i++) {
            if (code.charAt(i) == '(') {
                boolean isCall = opensCall(code, i);
                rule(10, !isCall || !open.contains(true), "a call inside the arguments of another: "
                    + code.substring(code.lastIndexOf('\n', i) + 1, i).trim());
                open.push(isCall);
            } else if (code.charAt(i) == ')') {
                open.pop();
            }
        }
    }

    /** The lines of each method, and of the constructor, without the first and the last. */
    private static Map<String, List<String>> bodies(String code) {
        Map<String, List<String>> found = new TreeMap<>();
        List<String> body = new ArrayList<>();
        for (String line : code.split("\n")) {
            Matcher start = Pattern.compile("    (?:public|private) [^(=]*?(\\w+)\\(.*\\{").matcher(line);
            if (start.matches()) {
                body = new ArrayList<>();
                found.put(start.group(1), body);
            } else if (line.equals("    }")) {
                body = new ArrayList<>();
            } else {
                body.add(line);
            }
        }
        return found;
    }

    /** How deep calls go from here; a call of a method that is under way is recursion. */
    private static int depthOf(String name, Map<String, List<String>> bodies, Set<String> underWay) {
        if (!underWay.add(name)) {
            rule(8, false, "recursion of " + name);
            return 0;
        }
        int deepest = 0;
        Matcher called = Pattern.compile("\\b(\\w+)\\(").matcher(String.join("\n", bodies.get(name)));
        while (called.find()) {
            if (bodies.containsKey(called.group(1))) {
                deepest = Math.max(deepest, depthOf(called.group(1), bodies, underWay));
            }
        }
        underWay.remove(name);
        return deepest + 1;
    }

    private static void bodiesAreSmall(String code) {
        Map<String, List<String>> bodies = bodies(code);
        int members = RoundedFloats.class.getDeclaredMethods().length + 1;
        rule(1, bodies.size() == members, "bodies of " + bodies.keySet() + " were found in place of " + members);
        for (String name : bodies.keySet()) {
            rule(10, bodies.get(name).size() <= MOST_LINES, name + " is too long");
            int depth = depthOf(name, bodies, new HashSet<>());
            rule(10, depth <= MOST_DEPTH, "calls from " + name + " go " + depth + " deep");
        }
    }

    private static void fields() {
        int own = 0;
        for (Field field : RoundedFloats.class.getDeclaredFields()) {
            String type = field.getType().getSimpleName();
            boolean isStatic = Modifier.isStatic(field.getModifiers());
            own += isStatic ? 0 : 1;
            rule(2, type.matches("(" + TYPES + ")(\\[\\])?"), "the type of " + field);
            rule(5, !isStatic || Modifier.isFinal(field.getModifiers()) && type.matches("int|long"), "no constant: " + field);
        }
        rule(10, own <= MOST_FIELDS, own + " fields");
    }

    private static void methods() {
        Set<String> publicNames = new HashSet<>();
        for (Method method : RoundedFloats.class.getMethods()) {
            publicNames.add(method.getName());
        }
        for (Method method : RoundedFloats.class.getDeclaredMethods()) {
            boolean isPublic = Modifier.isPublic(method.getModifiers());
            String type = method.getReturnType().getSimpleName();
            rule(1, isPublic || !publicNames.contains(method.getName()), "private with a public name: " + method);
            rule(4, type.matches(TYPES + "|void"), "what is answered by " + method);
            rule(10, method.getParameterCount() <= MOST_PARAMETERS, "the parameters of " + method);
        }
        rule(1, RoundedFloats.class.getDeclaredClasses().length == 0, "a nested class");
    }

    public static void main(String[] args) throws IOException {
        String code = codeOf(Files.readString(PROGRAM));
        words(code);
        arrays(code);
        callsInArguments(code);
        bodiesAreSmall(code);
        fields();
        methods();
        System.out.println(wrong + " places against the rules that were looked at");
        if (wrong != 0) {
            System.exit(1);
        }
    }
}
