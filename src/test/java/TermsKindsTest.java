import java.io.IOException;

final class TermsKindsTest {
    private static final int[] ODD_VALUES = {
        Integer.MIN_VALUE, -256, -1, 0, 1, 2, 3, 4, 127, 254, 255, 256, 257, Integer.MAX_VALUE
    };

    public static void main(String[] args) throws IOException {
        Sentences document = new Sentences("Kinds");
        document.test("DAG nodes and rule-tree nodes share the kind numbers.", TermsKindsTest::sharedNumbers);
        document.test("CONST holds a value 0..255", TermsKindsTest::constants);
        document.test("ARG names an input 0..3 and occurs only in the DAG", TermsKindsTest::args);
        document.test("VAR and CVAR name a variable j in 0..1 and occur only in rule trees", TermsKindsTest::variables);
        document.finish();
    }

    private static void sharedNumbers(Check check) {
        for (int kind = 1; kind <= 10; kind++) {
            PeepholeRules x = States.fresh();
            for (int j = 0; j <= (kind <= 8 ? 1 : 0); j++) {
                x.rulePat(13, j);
                x.ruleRep(13, j);
            }
            x.rulePat(kind, 0);
            x.ruleRep(kind, 0);
            x.rulePat(10, 0);
            x.rulePat(10, 0);
            check.due("rule of kind " + kind, x.ruleCommit(), 0);
            for (int other = 1; other <= 10; other++) {
                x.clearDag();
                x.addNode(12, 0, 0);
                x.addNode(12, 1, 0);
                int n = x.addNode(other, 0, 1);
                x.addOutput(x.addNode(10, x.addNode(10, n, 0), 0));
                check.due("kind " + kind + " at " + other, x.optimize(), kind == other ? 1 : 0);
                if (kind == other) {
                    check.due("it builds its kind", x.nodeAt(0, 0, 0), kind * 256);
                }
            }
        }
    }

    private static void constants(Check check) {
        for (int value : ODD_VALUES) {
            boolean word = value >= 0 && value <= 255;
            check.due("pattern CONST " + value, States.fresh().rulePat(11, value), word);
            check.due("replacement CONST " + value, States.fresh().ruleRep(11, value), word);
            PeepholeRules x = States.fresh();
            x.addOutput(x.addNode(11, value, 0));
            check.due("DAG CONST " + value, x.nodeAt(0, 0, 0), 11 * 256 + Math.floorMod(value, 256));
        }
    }

    private static void args(Check check) {
        for (int value : ODD_VALUES) {
            check.due("pattern ARG " + value, States.fresh().rulePat(12, value), false);
            check.due("replacement ARG " + value, States.fresh().ruleRep(12, value), false);
            boolean input = value >= 0 && value <= 3;
            check.due("DAG ARG " + value, States.fresh().addNode(12, value, 0), input ? 0 : -1);
        }
    }

    private static void variables(Check check) {
        for (int value : ODD_VALUES) {
            boolean variable = value == 0 || value == 1;
            check.due("pattern VAR " + value, States.fresh().rulePat(13, value), variable);
            check.due("pattern CVAR " + value, States.fresh().rulePat(14, value), variable);
            check.due("replacement VAR " + value, States.fresh().ruleRep(13, value), variable);
            PeepholeRules x = States.fresh();
            x.addNode(12, 0, 0);
            x.addNode(12, 1, 0);
            check.due("DAG VAR " + value, x.addNode(13, value, 0), -1);
            check.due("DAG CVAR " + value, x.addNode(14, value, 0), -1);
        }
    }
}
