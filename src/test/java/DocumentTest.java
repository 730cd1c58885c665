import java.io.IOException;
import java.nio.file.Files;
import java.nio.file.Path;
import java.util.List;
import java.util.TreeSet;
import java.util.regex.Matcher;
import java.util.regex.Pattern;
import java.util.stream.Collectors;
import java.util.stream.Stream;

// Each part of the document has a test class that goes through its sentences.
final class DocumentTest {
    private static final Pattern PART_OF_TEST = Pattern.compile("new Sentences\\(\"([^\"]+)\"\\)");

    public static void main(String[] args) throws IOException {
        Check check = new Check();
        TreeSet<String> tested = new TreeSet<>();
        for (Path file : testFiles()) {
            Matcher found = PART_OF_TEST.matcher(Files.readString(file));
            while (found.find()) {
                tested.add(found.group(1));
            }
        }
        check.due("parts with a test class", tested.toString(), new TreeSet<>(Sentences.parts()).toString());
        check.due("promises, terms, and the three parts around them", tested.size(), 14 + 9 + 3);
        check.finish();
    }

    private static List<Path> testFiles() throws IOException {
        try (Stream<Path> files = Files.list(Path.of("src/test/java"))) {
            return files.filter(file -> file.toString().endsWith("Test.java")).collect(Collectors.toList());
        }
    }
}
