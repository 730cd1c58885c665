import java.io.IOException;
import java.nio.file.Files;
import java.nio.file.Path;
import java.util.List;
import java.util.regex.Matcher;
import java.util.regex.Pattern;

// What of LANGUAGE.md can be seen in the words of the source; run from the project's own directory.
final class LanguageTest {
    private static final String FORBIDDEN = "\\b(import|package|throw|throws|try|catch|synchronized|assert|instanceof"
        + "|null|float|double|String|Math|Integer|System|Arrays|Object|interface|enum|record|protected|length)\\b|->|::|\"";
    private static final Pattern CALL = Pattern.compile("\\b(?!if|for|while|switch|return)[a-z]\\w*\\(");

    public static void main(String[] args) throws IOException {
        Check check = new Check();
        List<String> lines = Files.readAllLines(Path.of("src/main/java/PeepholeRules.java"));
        Pattern forbidden = Pattern.compile(FORBIDDEN);
        int methodStart = 0;
        for (int i = 0; i < lines.size(); i++) {
            String line = lines.get(i).replaceAll("//.*", "");
            String where = "line " + (i + 1);
            check.due(where + " has a forbidden word", forbidden.matcher(line).find(), false);
            check.due(where + " makes an array outside a field", line.contains("new ")
                && !line.matches("    private final (int|boolean)\\[\\] \\w+ = new (int|boolean)\\[[A-Z_]+\\];"), false);
            check.due(where + " has a call inside a call's arguments", hasNestedCall(line), false);
            if (line.matches("    (public|private) .*\\{")) {
                methodStart = i;
            }
            if (line.equals("    }")) {
                check.due(where + " ends a long method", i - methodStart > 60, false);
            }
        }
        check.finish();
    }

    private static boolean hasNestedCall(String line) {
        Matcher outer = CALL.matcher(line);
        while (outer.find()) {
            int depth = 1;
            int end = outer.end();
            while (end < line.length() && depth > 0) {
                depth += line.charAt(end) == '(' ? 1 : line.charAt(end) == ')' ? -1 : 0;
                end++;
            }
            if (CALL.matcher(line.substring(outer.end(), end)).find()) {
                return true;
            }
        }
        return false;
    }
}
