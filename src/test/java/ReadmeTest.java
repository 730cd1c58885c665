import java.io.IOException;
import java.nio.file.Files;
import java.nio.file.Path;

// The example of README.md stands here once more, word for word, and its answers are those that its comments tell.
final class ReadmeTest {
    private static final String START = "        // The example starts here.\n";
    private static final String END = "        // The example ends here.\n";

    public static void main(String[] args) throws IOException {
        Check check = new Check();
        example(check);
        String own = between(Files.readString(Path.of("src/test/java/ReadmeTest.java")), START, END);
        String example = between(Files.readString(Path.of("README.md")), "```java\n", "```");
        check.due("the example of README.md", example, own.replaceAll("(?m)^        ", ""));
        check.finish();
    }

    private static String between(String text, String start, String end) {
        int from = text.indexOf(start) + start.length();
        return text.substring(from, text.indexOf(end, from));
    }

    private static void example(Check check) {
        // The example starts here.
        PeepholeRules x = new PeepholeRules(16, 8);         // at most 16 nodes and 8 rules

        // v0 * 2 -> v0 + v0, each tree in postfix order
        x.rulePat(PeepholeRules.VAR, 0);
        x.rulePat(PeepholeRules.CONST, 2);
        x.rulePat(PeepholeRules.MUL, 0);
        x.ruleRep(PeepholeRules.VAR, 0);
        x.ruleRep(PeepholeRules.VAR, 0);
        x.ruleRep(PeepholeRules.ADD, 0);
        int verdict = x.ruleCommit();                       // OK

        // v0 << c1 -> 0, which is right only for a constant c1 of 8 or more
        x.rulePat(PeepholeRules.VAR, 0);
        x.rulePat(PeepholeRules.CVAR, 1);
        x.rulePat(PeepholeRules.SHL, 0);
        x.ruleRep(PeepholeRules.CONST, 0);
        x.rulePre(PeepholeRules.PRE_UGE, 1, 7);
        int wrong = x.ruleCommit();                         // ERR_WRONG: c1 may be 7
        int failing = x.stat(PeepholeRules.STAT_COUNTEREXAMPLE); // 1 + 256 * 7: v0 = 1, c1 = 7

        int input = x.addNode(PeepholeRules.ARG, 0, 0);
        int two = x.addNode(PeepholeRules.CONST, 2, 0);
        int product = x.addNode(PeepholeRules.MUL, input, two);
        int output = x.addOutput(product);                  // 0

        int applied = x.optimize();                         // 1
        int before = x.stat(PeepholeRules.STAT_ORIG_COST);  // 3
        int after = x.stat(PeepholeRules.STAT_LIVE_COST);   // 1
        int value = x.eval(output, 21, false);              // 42
        int root = x.nodeAt(output, 0, 0);                  // ADD * 256
        // The example ends here.
        check.due("verdict", verdict, PeepholeRules.OK);
        check.due("wrong", wrong, PeepholeRules.ERR_WRONG);
        check.due("failing", failing, 1 + 256 * 7);
        check.due("output", output, 0);
        check.due("applied", applied, 1);
        check.due("before", before, 3);
        check.due("after", after, 1);
        check.due("value", value, 42);
        check.due("root", root, PeepholeRules.ADD * 256);
    }
}
