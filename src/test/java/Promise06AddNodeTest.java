import java.io.IOException;

final class Promise06AddNodeTest {
    private static final int LOW = Integer.MIN_VALUE;
    private static final int HIGH = Integer.MAX_VALUE;

    public static void main(String[] args) throws IOException {
        Sentences document = new Sentences("Promise 6");
        document.test("adds a DAG node and answers its number, which is the count of nodes before the call",
            Promise06AddNodeTest::numbers);
        document.test("CONST: value a&255, for any int a (for instance -1 gives 255).", Promise06AddNodeTest::constants);
        document.test("ARG: input a, which must be in 0..3.", Promise06AddNodeTest::inputs);
        document.test("Unary kind: operand A is node a.", Promise06AddNodeTest::unaryKinds);
        document.test("Binary kind: operands A=a and B=b.", Promise06AddNodeTest::binaryKinds);
        document.test("Operands must be numbers of existing nodes", Promise06AddNodeTest::existingNodes);
        document.test("b is ignored except for binary kinds", Promise06AddNodeTest::ignoredB);
        document.test("The call answers -1 and changes nothing", Promise06AddNodeTest::refusedChangesNothing);
        document.test("the OPTIMIZED phase", Promise06AddNodeTest::optimizedPhase);
        document.test("the node count equals maxNodes", Promise06AddNodeTest::full);
        document.test("kind not in 1..12 (VAR and CVAR included)", Promise06AddNodeTest::kinds);
        document.test("a bad input or operand", Promise06AddNodeTest::badInputsAndOperands);
        document.test("A new node is not live until an output reaches it.", Promise06AddNodeTest::notLive);
        document.test("Outputs, rules, phase and counts other than the node count do not change.",
            Promise06AddNodeTest::nothingElseChanges);
        document.finish();
    }

    private static PeepholeRules withTwoArgs() {
        PeepholeRules x = States.fresh();
        x.addNode(12, 0, 0);
        x.addNode(12, 1, 0);
        return x;
    }

    private static void numbers(Check check) {
        PeepholeRules x = States.fresh();
        check.due("first", x.addNode(12, 3, 0), 0);
        check.due("refused", x.addNode(12, 4, 0), -1);
        check.due("second", x.addNode(11, 9, 0), 1);
        check.due("third", x.addNode(1, 0, 1), 2);
        check.due("fourth, unary", x.addNode(9, 2, 0), 3);
        check.due("an equal node is a new one", x.addNode(12, 3, 0), 4);
        check.due("count", x.stat(8), 5);
        x.addOutput(3);
        check.due("outputs take no number", x.addNode(11, 0, 0), 5);
    }

    private static void constants(Check check) {
        int[] given = {0, 1, 254, 255, 256, 257, 511, 512, -1, -2, -255, -256, -257, 4660, LOW, HIGH, LOW + 7};
        int[] want = {0, 1, 254, 255, 0, 1, 255, 0, 255, 254, 1, 0, 255, 52, 0, 255, 7};
        for (int i = 0; i < given.length; i++) {
            PeepholeRules x = States.fresh();
            check.due("CONST " + given[i] + " is taken", x.addNode(11, given[i], 0), 0);
            x.addOutput(0);
            check.due("node of " + given[i], x.nodeAt(0, 0, 0), 11 * 256 + want[i]);
            check.due("value of " + given[i], x.eval(0, 77, false), want[i]);
            x.optimize();
            check.due("original value of " + given[i], x.eval(0, 77, true), want[i]);
        }
        PeepholeRules y = States.fresh();
        Texts.accept(y, "v0 255 and", "v0");
        y.addNode(12, 0, 0);
        y.addNode(11, -1, 0);
        y.addOutput(y.addNode(4, 0, 1));
        check.due("-1 matches the pattern's 255", y.optimize(), 1);
    }

    private static void inputs(Check check) {
        for (int a = 0; a <= 3; a++) {
            PeepholeRules x = States.fresh();
            check.due("ARG " + a, x.addNode(12, a, 0), 0);
            x.addOutput(0);
            check.due("node of ARG " + a, x.nodeAt(0, 0, 0), 12 * 256 + a);
            check.due("value of ARG " + a, x.eval(0, 0x04030201, false), a + 1);
        }
        for (int a : new int[] {LOW, -256, -1, 4, 5, 8, 255, 256, 259, HIGH}) {
            PeepholeRules x = States.fresh();
            check.due("ARG " + a, x.addNode(12, a, 0), -1);
            check.due("nodes after ARG " + a, x.stat(8), 0);
        }
    }

    private static void unaryKinds(Check check) {
        for (int kind = 9; kind <= 10; kind++) {
            for (int a = 0; a <= 1; a++) {
                PeepholeRules x = withTwoArgs();
                check.due(kind + " of " + a, x.addNode(kind, a, 0), 2);
                x.addOutput(2);
                check.due("kind", x.nodeAt(0, 0, 0), kind * 256);
                check.due("operand A", x.nodeAt(0, 0, 1), 12 * 256 + a);
                check.due("no operand B", x.nodeAt(0, 1, 1), -1);
                check.due("live", x.stat(0), 2);
            }
        }
    }

    private static void binaryKinds(Check check) {
        for (int kind = 1; kind <= 8; kind++) {
            for (int a = 0; a <= 1; a++) {
                for (int b = 0; b <= 1; b++) {
                    PeepholeRules x = withTwoArgs();
                    check.due(kind + " of " + a + " and " + b, x.addNode(kind, a, b), 2);
                    x.addOutput(2);
                    check.due("kind", x.nodeAt(0, 0, 0), kind * 256);
                    check.due("operand A", x.nodeAt(0, 0, 1), 12 * 256 + a);
                    check.due("operand B", x.nodeAt(0, 1, 1), 12 * 256 + b);
                    check.due("live", x.stat(0), a == b ? 2 : 3);
                }
            }
        }
    }

    private static void existingNodes(Check check) {
        for (int kind = 1; kind <= 10; kind++) {
            check.due("no node yet for " + kind, States.fresh().addNode(kind, 0, 0), -1);
            check.due(kind + " of the first", withTwoArgs().addNode(kind, 0, 0), 2);
            check.due(kind + " of the last", withTwoArgs().addNode(kind, 1, 1), 2);
            for (int bad : new int[] {LOW, -2, -1, 2, 3, 15, 16, 32, 33, 64, 256, HIGH}) {
                check.due(kind + " of A " + bad, withTwoArgs().addNode(kind, bad, 0), -1);
                if (kind <= 8) {
                    check.due(kind + " of B " + bad, withTwoArgs().addNode(kind, 0, bad), -1);
                    check.due(kind + " of both " + bad, withTwoArgs().addNode(kind, bad, bad), -1);
                }
            }
        }
        PeepholeRules x = withTwoArgs();
        x.clearDag();
        check.due("a cleared node is none", x.addNode(9, 0, 0), -1);
        x.addNode(11, 0, 0);
        check.due("nor is a cleared second one", x.addNode(9, 1, 0), -1);
    }

    private static void ignoredB(Check check) {
        for (int b : new int[] {LOW, -1, 0, 1, 2, 16, 32, 256, HIGH}) {
            check.due("CONST with " + b, withTwoArgs().addNode(11, 5, b), 2);
            check.due("ARG with " + b, withTwoArgs().addNode(12, 2, b), 2);
            check.due("NOT with " + b, withTwoArgs().addNode(9, 0, b), 2);
            check.due("NEG with " + b, withTwoArgs().addNode(10, 0, b), 2);
            PeepholeRules x = withTwoArgs();
            x.addOutput(x.addNode(9, 0, b));
            x.addOutput(x.addNode(11, 5, b));
            check.due("B " + b + " is not made live", x.stat(0), 3);
            check.due("NOT has no operand B", x.nodeAt(0, 1, 1), -1);
            check.due("CONST has none either", x.nodeAt(1, 1, 1), -1);
        }
    }

    private static void refusedChangesNothing(Check check) {
        States.dueUnchangedInAll(check, "refused", x -> {
            x.addNode(0, 0, 0);
            x.addNode(-1, 0, 0);
            x.addNode(13, 0, 0);
            x.addNode(14, 1, 0);
            x.addNode(15, 0, 0);
            x.addNode(12, 4, 0);
            x.addNode(12, -1, 0);
            x.addNode(9, 32, 0);
            x.addNode(10, -1, 0);
            x.addNode(1, 0, 32);
            x.addNode(3, 32, 0);
            x.addNode(8, 0, -1);
        });
        States.dueUnchanged(check, "OPTIMIZED", () -> States.drafted(States.optimized()), Promise06AddNodeTest::addEveryKind);
        States.dueUnchanged(check, "full", () -> States.drafted(States.full()), Promise06AddNodeTest::addEveryKind);
    }

    private static void addEveryKind(PeepholeRules x) {
        for (int kind = 0; kind <= 15; kind++) {
            x.addNode(kind, 0, 0);
        }
    }

    private static void optimizedPhase(Check check) {
        for (int kind = 1; kind <= 12; kind++) {
            check.due("kind " + kind, States.optimized().addNode(kind, 0, 0), -1);
            PeepholeRules x = withTwoArgs();
            x.addOutput(0);
            x.optimize();
            check.due("kind " + kind + " with room", x.addNode(kind, 0, 0), -1);
            x.optimize();
            check.due("kind " + kind + " after a second optimize", x.addNode(kind, 0, 0), -1);
            check.due("count", x.stat(8), 1);
            PeepholeRules empty = States.fresh();
            empty.optimize();
            check.due("kind " + kind + " without any node", empty.addNode(kind, 0, 0), -1);
        }
        PeepholeRules y = States.optimized();
        y.clearDag();
        check.due("clearDag ends it", y.addNode(12, 0, 0), 0);
    }

    private static void full(Check check) {
        for (int maxNodes : new int[] {8, 9, 31, 32}) {
            PeepholeRules x = new PeepholeRules(maxNodes, 8);
            for (int n = 0; n < maxNodes; n++) {
                check.due("node " + n + " of " + maxNodes, x.addNode(11, n, 0), n);
            }
            for (int kind = 1; kind <= 12; kind++) {
                check.due("kind " + kind + " too many", x.addNode(kind, 0, 1), -1);
            }
            check.due("count", x.stat(8), maxNodes);
            check.due("the last node is one", x.addOutput(maxNodes - 1), 0);
            check.due("its value", x.eval(0, 0, false), maxNodes - 1);
        }
    }

    private static void kinds(Check check) {
        for (int kind = -300; kind <= 300; kind++) {
            boolean good = kind >= 1 && kind <= 12;
            check.due("kind " + kind, withTwoArgs().addNode(kind, 0, 1), good ? 2 : -1);
        }
        for (int kind : new int[] {LOW, LOW + 1, LOW + 11, 65536 + 1, HIGH - 1, HIGH}) {
            check.due("kind " + kind, withTwoArgs().addNode(kind, 0, 1), -1);
        }
    }

    private static void badInputsAndOperands(Check check) {
        PeepholeRules x = withTwoArgs();
        int[][] bad = {{12, -1, 0}, {12, 4, 0}, {9, 2, 0}, {10, -1, 0}, {1, 2, 0}, {1, 0, 2}, {8, -1, 0}, {8, 0, -1}};
        for (int[] call : bad) {
            check.due("kind " + call[0] + " of " + call[1] + " and " + call[2], x.addNode(call[0], call[1], call[2]), -1);
            check.due("count", x.stat(8), 2);
        }
        check.due("the next good one has the next number", x.addNode(2, 0, 1), 2);
    }

    private static void notLive(Check check) {
        PeepholeRules x = withTwoArgs();
        int sum = x.addNode(1, 0, 1);
        check.due("none is live", x.stat(0), 0);
        check.due("none costs", x.stat(1), 0);
        check.due("none is counted", x.countOp(1) + x.countOp(12), 0);
        x.addOutput(sum);
        check.due("an output makes three live", x.stat(0), 3);
        x.addNode(3, sum, sum);
        check.due("a new node over live ones is not", x.stat(0), 3);
        check.due("it costs nothing", x.stat(1), 1);
    }

    private static void nothingElseChanges(Check check) {
        PeepholeRules x = States.drafted(States.built());
        int nodes = x.stat(8);
        String before = Texts.state(x).replace(" s" + nodes, "");
        check.due("a good node", x.addNode(3, 0, 1), nodes);
        check.due("state but for the node count", Texts.state(x).replace(" s" + (nodes + 1), ""), before);
        check.due("outputs", x.stat(6), 2);
        check.due("rules", x.stat(4), 2);
        check.due("phase", x.stat(7), 0);
        check.due("counterexample", x.stat(5), 256);
        check.due("the draft stays", x.ruleCommit(), 0);
        check.due("the rules act", x.optimize(), 2);
    }
}
