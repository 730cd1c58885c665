final class Promise06AddNodeTest {
    private static final int LOW = Integer.MIN_VALUE;
    private static final int HIGH = Integer.MAX_VALUE;

    public static void main(String[] args) {
        Check check = new Check();
        numbers(check);
        constants(check);
        inputs(check);
        kinds(check);
        operands(check);
        operandOrder(check);
        full(check);
        optimizedPhase(check);
        nothingElseChanges(check);
        check.finish();
    }

    private static void numbers(Check check) {
        PeepholeRules x = new PeepholeRules(16, 8);
        check.due("first", x.addNode(12, 3, 0), 0);
        check.due("refused", x.addNode(12, 4, 0), -1);
        check.due("second", x.addNode(11, 9, 0), 1);
        check.due("third", x.addNode(1, 0, 1), 2);
        check.due("fourth, unary", x.addNode(9, 2, 0), 3);
        check.due("count", x.stat(8), 4);
        check.due("none is live", x.stat(0), 0);
        x.addOutput(2);
        check.due("an output makes three live", x.stat(0), 3);
        check.due("a new node is not live", x.addNode(10, 2, 0), 4);
        check.due("still three live", x.stat(0), 3);
    }

    private static void constants(Check check) {
        int[] given = {0, 1, 255, 256, 257, -1, -255, -256, 4660, LOW, HIGH, LOW + 7};
        int[] want = {0, 1, 255, 0, 1, 255, 1, 0, 52, 0, 255, 7};
        for (int i = 0; i < given.length; i++) {
            PeepholeRules x = new PeepholeRules(16, 8);
            x.addNode(11, given[i], HIGH);
            x.addOutput(0);
            check.due("CONST of " + given[i], x.nodeAt(0, 0, 0), 11 * 256 + want[i]);
            check.due("value of " + given[i], x.eval(0, 77, false), want[i]);
        }
    }

    private static void inputs(Check check) {
        for (int a : new int[] {LOW, -1, 0, 1, 2, 3, 4, 255, 256, HIGH}) {
            PeepholeRules x = new PeepholeRules(16, 8);
            boolean good = a >= 0 && a <= 3;
            check.due("ARG " + a, x.addNode(12, a, -9), good ? 0 : -1);
            check.due("nodes after ARG " + a, x.stat(8), good ? 1 : 0);
        }
    }

    private static void kinds(Check check) {
        for (int kind = -3; kind <= 20; kind++) {
            PeepholeRules x = new PeepholeRules(16, 8);
            x.addNode(12, 0, 0);
            x.addNode(12, 1, 0);
            check.due("kind " + kind, x.addNode(kind, 0, 1), kind >= 1 && kind <= 12 ? 2 : -1);
        }
        PeepholeRules x = new PeepholeRules(16, 8);
        x.addNode(12, 0, 0);
        for (int kind : new int[] {LOW, HIGH, 257, 268}) {
            check.due("kind " + kind, x.addNode(kind, 0, 0), -1);
        }
    }

    private static void operands(Check check) {
        for (int kind = 1; kind <= 10; kind++) {
            PeepholeRules empty = new PeepholeRules(16, 8);
            check.due("no node yet for kind " + kind, empty.addNode(kind, 0, 0), -1);
            for (int operand : new int[] {LOW, -1, 0, 1, 2, 3, 15, 32, HIGH}) {
                PeepholeRules x = new PeepholeRules(16, 8);
                x.addNode(12, 0, 0);
                x.addNode(12, 1, 0);
                boolean good = operand == 0 || operand == 1;
                check.due(kind + " of A " + operand, x.addNode(kind, operand, 0), good ? 2 : -1);
                PeepholeRules y = new PeepholeRules(16, 8);
                y.addNode(12, 0, 0);
                y.addNode(12, 1, 0);
                check.due(kind + " of B " + operand, y.addNode(kind, 1, operand), good || kind >= 9 ? 2 : -1);
            }
        }
        PeepholeRules x = new PeepholeRules(16, 8);
        check.due("B is ignored for CONST", x.addNode(11, 5, LOW), 0);
        check.due("B is ignored for ARG", x.addNode(12, 2, 99), 1);
        check.due("B is ignored for NOT", x.addNode(9, 0, 1), 2);
        x.addOutput(2);
        check.due("NOT has no operand B", x.nodeAt(0, 1, 1), -1);
        check.due("B is not live", x.stat(0), 2);
        check.due("both operands may be one node", x.addNode(1, 1, 1), 3);
    }

    private static void operandOrder(Check check) {
        PeepholeRules x = new PeepholeRules(16, 8);
        x.addNode(12, 0, 0);
        x.addNode(12, 1, 0);
        x.addOutput(x.addNode(2, 0, 1));
        x.addOutput(x.addNode(2, 1, 0));
        check.due("a0 - a1", x.eval(0, 0x0307, false), 4);
        check.due("a1 - a0", x.eval(1, 0x0307, false), 252);
        check.due("shape", Texts.shape(x, 0), "a0 a1 sub");
    }

    private static void full(Check check) {
        PeepholeRules x = new PeepholeRules(9, 8);
        for (int n = 0; n < 9; n++) {
            check.due("node", x.addNode(11, n, 0), n);
        }
        check.due("CONST too many", x.addNode(11, 0, 0), -1);
        check.due("ARG too many", x.addNode(12, 0, 0), -1);
        check.due("NOT too many", x.addNode(9, 0, 0), -1);
        check.due("ADD too many", x.addNode(1, 0, 1), -1);
        check.due("count", x.stat(8), 9);
    }

    private static void optimizedPhase(Check check) {
        PeepholeRules x = new PeepholeRules(16, 8);
        x.addNode(12, 0, 0);
        x.addOutput(0);
        x.optimize();
        check.due("CONST", x.addNode(11, 0, 0), -1);
        check.due("NOT", x.addNode(9, 0, 0), -1);
        check.due("count", x.stat(8), 1);
        PeepholeRules y = new PeepholeRules(16, 8);
        y.optimize();
        check.due("without any node", y.addNode(12, 0, 0), -1);
    }

    private static void nothingElseChanges(Check check) {
        PeepholeRules x = new PeepholeRules(8, 8);
        Texts.commit(x, "v0 not not", "v0");
        Texts.commit(x, "v0 not", "v0");
        Texts.output(x, "a0 not not");
        int cost = x.stat(1);
        x.addNode(3, 0, 1);
        check.due("live cost", x.stat(1), cost);
        check.due("outputs", x.stat(6), 1);
        check.due("rules", x.stat(4), 1);
        check.due("phase", x.stat(7), 0);
        check.due("counterexample", x.stat(5), 0);
        check.due("operations of the new kind", x.countOp(3), 0);
        String before = Texts.state(x);
        x.addNode(13, 0, 0);
        x.addNode(12, 4, 0);
        x.addNode(1, 0, 8);
        check.due("refused calls", Texts.state(x), before);
    }
}
