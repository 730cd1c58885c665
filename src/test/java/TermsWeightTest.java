import java.io.IOException;

final class TermsWeightTest {
    public static void main(String[] args) throws IOException {
        Sentences document = new Sentences("Weight");
        document.test("MUL 3", TermsWeightTest::mul);
        document.test("every other binary or unary kind 1", TermsWeightTest::otherKinds);
        document.test("leaves 0", TermsWeightTest::leaves);
        document.finish();
    }

    private static void dueCost(Check check, int kind, int want) {
        PeepholeRules x = States.fresh();
        x.addNode(12, 0, 0);
        x.addOutput(x.addNode(kind, 0, 0));
        check.due("live cost of kind " + kind, x.stat(1), want);
        check.due("original cost of kind " + kind, x.stat(2), want);
        x.optimize();
        check.due("optimised cost of kind " + kind, x.stat(1), want);
        check.due("kept cost of kind " + kind, x.stat(2), want);
    }

    private static int verdict(String pattern, String replacement) {
        return Texts.commit(States.fresh(), pattern, replacement);
    }

    private static void mul(Check check) {
        dueCost(check, 3, 3);
        check.due("more than 2 in a pattern", verdict("v0 1 mul", "v0 not not"), 0);
        check.due("not more than 3 in a pattern", verdict("v0 1 mul", "v0 not not 0 add"), 5);
        check.due("less than 4 in a replacement", verdict("v0 not not not not", "v0 1 mul"), 0);
        check.due("not less than 3 in a replacement", verdict("v0 not not 0 add", "v0 1 mul"), 5);
    }

    private static void otherKinds(Check check) {
        String[] words = {"v0 v1 add", "v0 v1 sub", "", "v0 v1 and", "v0 v1 or", "v0 v1 xor", "v0 v1 shl", "v0 v1 shr", "v0 not", "v0 neg"};
        for (int kind = 1; kind <= 10; kind++) {
            if (kind != 3) {
                dueCost(check, kind, 1);
                String word = words[kind - 1];
                check.due(word + " in a replacement is less than 2", verdict(word + " 0 or", word), 0);
                check.due(word + " in a replacement is not less than 1", verdict(word, word), 5);
                check.due(word + " in a pattern is more than 0", verdict(word, "7"), 6);
                check.due(word + " in a pattern is not more than 1", verdict(word, "v0 0 or"), 5);
                check.due(word + " with another is not more than 2", verdict(word + " 0 or", word + " 0 add"), 5);
            }
        }
    }

    private static void leaves(Check check) {
        dueCost(check, 11, 0);
        dueCost(check, 12, 0);
        check.due("VAR in a replacement", verdict("v0 not", "v0"), 6);
        check.due("CONST in a replacement", verdict("v0 not", "0"), 6);
        check.due("leaves in a pattern", verdict("v0 k1 add", "v0 7 add"), 5);
        check.due("leaves in a replacement", verdict("v0 not not", "v0 0 or"), 0);
    }
}
