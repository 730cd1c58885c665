import java.io.IOException;
import java.nio.file.Files;
import java.nio.file.Path;
import java.util.LinkedHashMap;
import java.util.Map;
import java.util.TreeSet;
import java.util.regex.Matcher;
import java.util.regex.Pattern;

// What of LANGUAGE.md can be seen in the words of the source; run from the project's own directory.
// FaceTest sees what can be seen of the compiled class.
final class LanguageTest {
    private static final Pattern FORBIDDEN = Pattern.compile("\\b(import|package|throw|throws|try|catch|synchronized"
        + "|assert|instanceof|null|float|double|var|interface|enum|record|protected|native|super)\\b|->|::|\"|@|\\]\\s*\\[");
    // Only the class itself bears such a name, so no other class is used.
    private static final Pattern CLASS_LIKE = Pattern.compile("\\b[A-Z]\\w*[a-z]\\w*\\b");
    private static final Pattern MEMBER = Pattern.compile("(\\w+|\\)|\\])\\s*\\.\\s*\\w");
    private static final Pattern CALL = Pattern.compile("\\b(?!(?:if|for|while|switch|return)\\b)([a-z]\\w*)\\s*\\(");
    private static final Pattern NAME = Pattern.compile("(\\w+)\\s*\\(");
    private static final Pattern ARRAY = Pattern.compile("new (?:int|long|short|byte|char|boolean)\\[(\\w+)\\]");
    private static final Pattern STATIC_FIELD = Pattern.compile("\\bstatic\\b[^;{(]*;");
    private static final Pattern CONSTANT = Pattern.compile("static final (?:int|long) (\\w+) = (-?\\d+);");
    private static final Pattern LOOP = Pattern.compile("\\b(for|while|do)\\b");
    // Counts up or down to a bound; what else ends the loop may follow behind &&, but nothing that goes on without it.
    private static final Pattern COUNTED = Pattern.compile(
        "for \\(int (\\w+) = [^;]+; (?:\\1 (?:<|<=) [^;|?]+; \\1\\+\\+|\\1 >= [^;|?]+; \\1--)\\) \\{");
    private static final String CLASS_NAME = "PeepholeRules";
    // "Some sixty lines", and calls at most six deep, the public method counted.
    private static final int MOST_LINES = 65;
    private static final int MOST_DEEP = 6;

    private final Check check = new Check();
    private final Map<String, String> bodies = new LinkedHashMap<>();
    private final Map<String, String> constants = new LinkedHashMap<>();

    public static void main(String[] args) throws IOException {
        String source = Files.readString(Path.of("src/main/java/PeepholeRules.java"));
        String text = source.replaceAll("(?s)/\\*.*?\\*/", "").replaceAll("//[^\\n]*", "");
        LanguageTest test = new LanguageTest();
        test.readMethods(text);
        test.check.due("methods were found", test.bodies.containsKey("optimize"), true);
        test.words(text);
        test.constants(text);
        test.arrays(text);
        test.loops();
        test.calls();
        test.check.finish();
    }

    // A method is a block that stands directly in the class.
    private void readMethods(String text) {
        int depth = 0;
        int start = 0;
        for (int i = 0; i < text.length(); i++) {
            char c = text.charAt(i);
            depth += c == '{' ? 1 : c == '}' ? -1 : 0;
            boolean ends = c == '}' && depth == 1;
            if (ends) {
                readMethod(text.substring(start, i + 1).strip());
            }
            if (ends || depth == 1 && (c == ';' || c == '{')) {
                start = i + 1;
            }
        }
    }

    private void readMethod(String method) {
        Matcher name = NAME.matcher(method.substring(0, method.indexOf('{')));
        check.due("a method has a name", name.find(), true);
        String body = method.substring(method.indexOf('{'));
        bodies.merge(name.group(1), body, String::concat);
        check.due(name.group(1) + " is a long method", method.split("\n").length > MOST_LINES, false);
    }

    private void words(String text) {
        Matcher forbidden = FORBIDDEN.matcher(text);
        check.due("forbidden words", forbidden.find() ? forbidden.group() : "none", "none");
        Matcher other = CLASS_LIKE.matcher(text);
        while (other.find()) {
            check.due("a class that is named", other.group(), CLASS_NAME);
        }
        Matcher member = MEMBER.matcher(text);
        while (member.find()) {
            check.due("whose member is named by a dot", member.group(1), "this");
        }
        check.due("classes", text.split("\\bclass\\b").length, 2);
    }

    private void constants(String text) {
        Matcher field = STATIC_FIELD.matcher(text);
        while (field.find()) {
            Matcher constant = CONSTANT.matcher(field.group());
            boolean matches = constant.find();
            check.due(field.group() + " has a number", matches, true);
            if (matches) {
                constants.put(constant.group(1), constant.group(2));
            }
        }
        check.due("constants were found", constants.getOrDefault("CVAR", "none"), "14");
    }

    private void arrays(String text) {
        check.due("something other than an array is made",
            ARRAY.matcher(text).replaceAll("").matches("(?s).*\\bnew\\b.*"), false);
        Matcher array = ARRAY.matcher(text);
        while (array.find()) {
            String length = constants.getOrDefault(array.group(1), array.group(1));
            check.due("an array's length, " + array.group(1), length.matches("[1-9]\\d*"), true);
        }
        // All are made by the fields' initialisers, so not even the constructor makes one.
        bodies.forEach((name, body) -> check.due(name + " makes an array", body.matches("(?s).*\\bnew\\b.*"), false));
    }

    private void loops() {
        bodies.forEach((name, body) -> {
            Matcher loop = LOOP.matcher(body);
            while (loop.find()) {
                Matcher counted = COUNTED.matcher(body).region(loop.start(), body.length());
                boolean counts = counted.lookingAt();
                check.due(name + " has a loop without a counter", counts, true);
                if (counts) {
                    String counter = counted.group(1);
                    String inside = blockAt(body, counted.end());
                    Pattern changed = Pattern.compile("\\b" + counter + "\\s*([-+*/%&|^]|<<|>>>?)?=[^=]|\\b" + counter
                        + "\\s*(\\+\\+|--)|(\\+\\+|--)\\s*" + counter + "\\b");
                    check.due(name + " changes the counter " + counter, changed.matcher(inside).find(), false);
                }
            }
        });
    }

    private static String blockAt(String text, int start) {
        int depth = 1;
        int end = start;
        while (end < text.length() && depth > 0) {
            depth += text.charAt(end) == '{' ? 1 : text.charAt(end) == '}' ? -1 : 0;
            end++;
        }
        return text.substring(start, end);
    }

    private void calls() {
        bodies.forEach((name, body) -> {
            for (String called : callsIn(body)) {
                check.due(name + " calls " + called + ", a method of the class", bodies.containsKey(called), true);
            }
            check.due(name + " has a call inside a call's arguments", hasNestedCall(body), false);
            check.due(name + " goes too deep, or calls itself", depthOf(name, 1) > MOST_DEEP, false);
        });
    }

    private static TreeSet<String> callsIn(String body) {
        TreeSet<String> names = new TreeSet<>();
        Matcher call = CALL.matcher(body);
        while (call.find()) {
            names.add(call.group(1));
        }
        return names;
    }

    // A method that calls itself goes deeper and deeper, so it is given up as soon as it is too deep.
    private int depthOf(String method, int depth) {
        int deepest = depth;
        for (String called : callsIn(bodies.getOrDefault(method, ""))) {
            if (deepest <= MOST_DEEP) {
                deepest = Math.max(deepest, depthOf(called, depth + 1));
            }
        }
        return deepest;
    }

    private static boolean hasNestedCall(String body) {
        Matcher outer = CALL.matcher(body);
        while (outer.find()) {
            int depth = 1;
            int end = outer.end();
            while (end < body.length() && depth > 0) {
                depth += body.charAt(end) == '(' ? 1 : body.charAt(end) == ')' ? -1 : 0;
                end++;
            }
            if (!callsIn(body.substring(outer.end(), end)).isEmpty()) {
                return true;
            }
        }
        return false;
    }
}
