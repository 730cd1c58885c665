import java.io.IOException;
import java.nio.file.Files;
import java.nio.file.Path;
import java.util.ArrayList;
import java.util.LinkedHashMap;
import java.util.LinkedHashSet;
import java.util.List;
import java.util.Map;
import java.util.Set;
import java.util.function.Consumer;

// The sentences of one part of the document: each must have a test of its own, or be named as one that nothing can break.
final class Sentences {
    private static final Path DOCUMENT = Path.of("../shared/DOC.md");

    private final Check check = new Check();
    private final String part;
    private final List<String> sentences;
    private final Set<String> left;

    // A part is a heading such as "What it is" or "Promise 1", or what stands in bold under "Terms", such as "Match".
    Sentences(String part) throws IOException {
        this.part = part;
        sentences = read().getOrDefault(part, List.of());
        left = new LinkedHashSet<>(sentences);
        check.due(part + " is in the document", !sentences.isEmpty(), true);
    }

    static Set<String> parts() throws IOException {
        return read().keySet();
    }

    private static Map<String, List<String>> read() throws IOException {
        Map<String, List<String>> found = new LinkedHashMap<>();
        String part = "";
        boolean code = false;
        for (String line : Files.readAllLines(DOCUMENT)) {
            code ^= line.startsWith("```");
            if (line.startsWith("## ")) {
                part = line.substring(3).replaceFirst(":.*", "");
            } else if (!code && !line.isBlank() && !line.startsWith("```") && !line.startsWith("# ")) {
                part = line.startsWith("**") ? line.substring(2).replaceFirst("\\.?\\*\\*.*", "") : part;
                found.computeIfAbsent(part, name -> new ArrayList<>()).addAll(split(line));
            }
        }
        return found;
    }

    // What stands between the fences; only the public face has such a block.
    static String code() throws IOException {
        return Files.readString(DOCUMENT).split("```[a-z]*")[1];
    }

    private static List<String> split(String line) {
        String text = line.replaceFirst("^\\*\\*[^*]*\\.\\*\\* ", "").replace("**", "");
        return List.of(text.replaceFirst("^(- |\\d+\\. )", "").split("(?<=\\.)\\s+"));
    }

    private void tick(String clause) {
        List<String> holding = new ArrayList<>(sentences);
        holding.removeIf(sentence -> !sentence.contains(clause));
        check.due("sentences of the document with these words", holding.size(), 1);
        left.removeAll(holding);
    }

    // A clause is a sentence, or that piece of one that names the case; its words are the document's.
    void test(String clause, Consumer<Check> test) {
        check.under(part + ", \"" + clause + "\"");
        tick(clause);
        ask(test);
    }

    private void ask(Consumer<Check> test) {
        int before = check.asked();
        try {
            test.accept(check);
        } catch (RuntimeException failure) {
            check.due("the test", "" + failure, "no exception");
        }
        check.due("something was asked", check.asked() > before, true);
    }

    // For what the part says outside its sentences.
    void testBeside(String what, Consumer<Check> test) {
        check.under(part + ", " + what);
        ask(test);
    }

    // For a sentence that only gives a name, opens a list or leaves something free.
    void opens(String clause) {
        check.under(part + ", \"" + clause + "\"");
        tick(clause);
    }

    void finish() {
        check.under(part);
        check.due("sentences without a test", left.toString(), "[]");
        check.finish();
    }
}
