import java.io.IOException;
import java.nio.file.Files;
import java.nio.file.Path;
import java.util.LinkedHashMap;
import java.util.Map;
import java.util.TreeSet;
import java.util.regex.Matcher;
import java.util.regex.Pattern;

// What of LANGUAGE.md can be seen in the words of the source; run from the project's own directory.
final class LanguageTest {
    private static final Pattern FORBIDDEN = Pattern.compile("\\b(import|package|throw|throws|try|catch|synchronized"
        + "|assert|instanceof|null|float|double|String|Math|Integer|System|Arrays|Object|interface|enum|record|protected)\\b|->|::|\"");
    private static final Pattern CALL = Pattern.compile("\\b(?!(?:if|for|while|switch|return)\\b)([a-z]\\w*)\\s*\\(");
    private static final Pattern NAME = Pattern.compile("(\\w+)\\s*\\(");
    private static final String ARRAY = "new (int|long|short|byte|char|boolean)\\[\\w+\\]";
    private static final String CLASS_NAME = "PeepholeRules";
    // "Some sixty lines", and calls at most six deep, the public method counted.
    private static final int MOST_LINES = 65;
    private static final int MOST_DEEP = 6;

    private final Check check = new Check();
    private final Map<String, String> bodies = new LinkedHashMap<>();

    public static void main(String[] args) throws IOException {
        String source = Files.readString(Path.of("src/main/java/PeepholeRules.java"));
        String text = source.replaceAll("(?s)/\\*.*?\\*/", "").replaceAll("//[^\\n]*", "");
        LanguageTest test = new LanguageTest();
        test.readMethods(text);
        test.check.due("methods were found", test.bodies.containsKey("optimize"), true);
        test.words(text);
        test.arrays(text);
        test.methods();
        test.check.finish();
    }

    // A method is a block that stands directly in the class.
    private void readMethods(String text) {
        int depth = 0;
        int start = 0;
        for (int i = 0; i < text.length(); i++) {
            char c = text.charAt(i);
            depth += c == '{' ? 1 : c == '}' ? -1 : 0;
            boolean ends = c == '}' && depth == 1;
            if (ends) {
                readMethod(text.substring(start, i + 1).strip());
            }
            if (ends || depth == 1 && (c == ';' || c == '{')) {
                start = i + 1;
            }
        }
    }

    private void readMethod(String method) {
        Matcher name = NAME.matcher(method);
        check.due("a method has a name", name.find(), true);
        String body = method.substring(method.indexOf('{'));
        bodies.merge(name.group(1), body, String::concat);
        check.due(name.group(1) + " is a long method", method.split("\n").length > MOST_LINES, false);
    }

    private void words(String text) {
        Matcher found = FORBIDDEN.matcher(text);
        check.due("forbidden words", found.find() ? found.group() : "none", "none");
    }

    private void arrays(String text) {
        check.due("something other than an array is made", text.replaceAll(ARRAY, "").matches("(?s).*\\bnew\\b.*"), false);
        bodies.forEach((name, body) -> check.due(name + " makes an array",
            !name.equals(CLASS_NAME) && body.matches("(?s).*\\bnew\\b.*"), false));
    }

    private void methods() {
        bodies.forEach((name, body) -> {
            check.due(name + " has a call inside a call's arguments", hasNestedCall(body), false);
            check.due(name + " goes too deep, or calls itself", depthOf(name, 1) > MOST_DEEP, false);
        });
    }

    private static TreeSet<String> callsIn(String body) {
        TreeSet<String> names = new TreeSet<>();
        Matcher call = CALL.matcher(body);
        while (call.find()) {
            names.add(call.group(1));
        }
        return names;
    }

    // A method that calls itself goes deeper and deeper, so it is given up as soon as it is too deep.
    private int depthOf(String method, int depth) {
        int deepest = depth;
        for (String called : callsIn(bodies.getOrDefault(method, ""))) {
            if (deepest <= MOST_DEEP) {
                deepest = Math.max(deepest, depthOf(called, depth + 1));
            }
        }
        return deepest;
    }

    private static boolean hasNestedCall(String body) {
        Matcher outer = CALL.matcher(body);
        while (outer.find()) {
            int depth = 1;
            int end = outer.end();
            while (end < body.length() && depth > 0) {
                depth += body.charAt(end) == '(' ? 1 : body.charAt(end) == ')' ? -1 : 0;
                end++;
            }
            if (!callsIn(body.substring(outer.end(), end)).isEmpty()) {
                return true;
            }
        }
        return false;
    }
}
