import java.io.IOException;
import java.nio.file.Files;
import java.nio.file.Path;
import java.util.LinkedHashMap;
import java.util.List;
import java.util.Map;
import java.util.TreeSet;
import java.util.regex.Matcher;
import java.util.regex.Pattern;

// What of LANGUAGE.md can be seen in the words of the source; run from the project's own directory.
final class LanguageTest {
    private static final String FORBIDDEN = "\\b(import|package|throw|throws|try|catch|synchronized|assert|instanceof"
        + "|null|float|double|String|Math|Integer|System|Arrays|Object|interface|enum|record|protected)\\b|->|::|\"";
    private static final Pattern CALL = Pattern.compile("\\b(?!if|for|while|switch|return)([a-z]\\w*)\\(");
    private static final Pattern METHOD = Pattern.compile("    (?:public|private) (?:static )?(?:\\w+ )?(\\w+)\\(.*\\) \\{");
    private static final String ARRAY = "(int|long|short|byte|char|boolean)";
    // "Some sixty lines", and calls at most six deep, the public method counted.
    private static final int MOST_LINES = 65;
    private static final int MOST_DEEP = 6;

    private final Check check = new Check();
    private final Map<String, TreeSet<String>> callsOf = new LinkedHashMap<>();

    public static void main(String[] args) throws IOException {
        LanguageTest test = new LanguageTest();
        test.readLines(Files.readAllLines(Path.of("src/main/java/PeepholeRules.java")));
        test.callsAreShallow();
        test.check.finish();
    }

    private void readLines(List<String> lines) {
        Pattern forbidden = Pattern.compile(FORBIDDEN);
        String method = "";
        int methodStart = 0;
        for (int i = 0; i < lines.size(); i++) {
            String line = lines.get(i).replaceAll("//.*", "");
            String where = "line " + (i + 1);
            check.due(where + " has a forbidden word", forbidden.matcher(line).find(), false);
            check.due(where + " has a call inside a call's arguments", hasNestedCall(line), false);
            Matcher head = METHOD.matcher(line);
            if (head.matches()) {
                method = head.group(1);
                methodStart = i;
                callsOf.computeIfAbsent(method, name -> new TreeSet<>());
                continue;
            }
            boolean makesArrayWell = line.matches(".* = new " + ARRAY + "\\[\\w+\\];")
                && (method.isEmpty() || method.equals("PeepholeRules"));
            check.due(where + " makes something elsewhere", line.contains("new ") && !makesArrayWell, false);
            noteCalls(method, line);
            if (line.equals("    }")) {
                check.due(where + " ends a long method", i - methodStart >= MOST_LINES, false);
                method = "";
            }
        }
    }

    private void noteCalls(String method, String line) {
        Matcher call = CALL.matcher(line);
        while (!method.isEmpty() && call.find()) {
            callsOf.get(method).add(call.group(1));
        }
    }

    private void callsAreShallow() {
        check.due("methods were found", callsOf.containsKey("optimize") && callsOf.size() > 14, true);
        for (String method : callsOf.keySet()) {
            check.due(method + " goes too deep, or calls itself", depthOf(method, 1) > MOST_DEEP, false);
        }
    }

    // A method that calls itself goes deeper and deeper, so it is given up at once when it is too deep.
    private int depthOf(String method, int depth) {
        int deepest = depth;
        for (String called : callsOf.getOrDefault(method, new TreeSet<>())) {
            if (deepest <= MOST_DEEP) {
                deepest = Math.max(deepest, depthOf(called, depth + 1));
            }
        }
        return deepest;
    }

    private static boolean hasNestedCall(String line) {
        Matcher outer = CALL.matcher(line);
        while (outer.find()) {
            int depth = 1;
            int end = outer.end();
            while (end < line.length() && depth > 0) {
                depth += line.charAt(end) == '(' ? 1 : line.charAt(end) == ')' ? -1 : 0;
                end++;
            }
            if (CALL.matcher(line.substring(outer.end(), end)).find()) {
                return true;
            }
        }
        return false;
    }
}
