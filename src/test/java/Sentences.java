import java.io.IOException;
import java.nio.file.Files;
import java.nio.file.Path;
import java.util.ArrayList;
import java.util.LinkedHashMap;
import java.util.LinkedHashSet;
import java.util.List;
import java.util.Map;
import java.util.Set;
import java.util.function.Consumer;

// The sentences of one part of the document: each must have a test of its own, or be named as one that nothing can break.
final class Sentences {
    private static final Path DOCUMENT = Path.of("../shared/DOC.md");

    private final Check check = new Check();
    private final String part;
    private final List<String> sentences;
    private final Set<String> left;

    // A part is "Promise 1" to "Promise 14", or what stands in bold under "Terms", such as "Match".
    Sentences(String part) throws IOException {
        this.part = part;
        sentences = read().getOrDefault(part, List.of());
        left = new LinkedHashSet<>(sentences);
        check.due(part + " is in the document", !sentences.isEmpty(), true);
    }

    static Set<String> parts() throws IOException {
        return read().keySet();
    }

    private static Map<String, List<String>> read() throws IOException {
        Map<String, List<String>> found = new LinkedHashMap<>();
        boolean promises = false;
        String part = "";
        for (String line : Files.readAllLines(DOCUMENT)) {
            if (line.startsWith("## ")) {
                part = line.substring(3).replaceFirst(":.*", "");
                promises = part.equals("Terms") || part.startsWith("Promise ");
            } else if (promises && !line.isBlank()) {
                part = line.startsWith("**") ? line.substring(2).replaceFirst("\\.?\\*\\*.*", "") : part;
                found.computeIfAbsent(part, name -> new ArrayList<>()).addAll(split(line));
            }
        }
        return found;
    }

    private static List<String> split(String line) {
        String text = line.replaceFirst("^\\*\\*[^*]*\\.\\*\\* ", "").replace("**", "");
        return List.of(text.replaceFirst("^(- |\\d+\\. )", "").split("(?<=\\.)\\s+"));
    }

    private void tick(String clause) {
        List<String> holding = new ArrayList<>(sentences);
        holding.removeIf(sentence -> !sentence.contains(clause));
        check.due("sentences of the document with these words", holding.size(), 1);
        left.removeAll(holding);
    }

    // A clause is a sentence, or that piece of one that names the case; its words are the document's.
    void test(String clause, Consumer<Check> test) {
        check.under(part + ", \"" + clause + "\"");
        tick(clause);
        int before = check.asked();
        try {
            test.accept(check);
        } catch (RuntimeException failure) {
            check.due("the test", "" + failure, "no exception");
        }
        check.due("something was asked", check.asked() > before, true);
    }

    // For a sentence that only gives a name or opens a list.
    void opens(String clause) {
        check.under(part + ", \"" + clause + "\"");
        tick(clause);
    }

    void finish() {
        check.under(part);
        check.due("sentences without a test", left.toString(), "[]");
        check.finish();
    }
}
