import java.io.IOException;

final class Promise14NodeAtTest {
    private static final int LOW = Integer.MIN_VALUE;
    private static final int HIGH = Integer.MAX_VALUE;

    public static void main(String[] args) throws IOException {
        Sentences document = new Sentences("Promise 14");
        document.test("walks the current DAG from the node of output k for depth steps, depth in 0..8",
            Promise14NodeAtTest::depths);
        document.test("Step i+1 goes to operand A if bit i of path is 0, and to operand B if it is 1",
            Promise14NodeAtTest::paths);
        document.test("bits from depth upward play no part", Promise14NodeAtTest::bitsAbove);
        document.test("It answers kind*256 for a binary or unary node, 11*256+value for CONST, and 12*256+input for ARG.",
            Promise14NodeAtTest::codes);
        document.test("k is not an output index", Promise14NodeAtTest::badOutputs);
        document.test("depth is not in 0..8", Promise14NodeAtTest::badDepths);
        document.test("any operand of a leaf", Promise14NodeAtTest::operandsOfLeaves);
        document.test("or B of a unary node", Promise14NodeAtTest::operandBOfUnary);
        document.test("In the OPTIMIZED phase the current DAG is the optimised one.", Promise14NodeAtTest::optimised);
        document.test("It changes nothing.", Promise14NodeAtTest::changesNothing);
        document.finish();
    }

    private static void depths(Check check) {
        PeepholeRules x = States.fresh();
        Texts.output(x, "a1");
        Texts.output(x, "a2 not neg not neg not neg not neg not");
        for (int depth = 0; depth <= 8; depth++) {
            check.due("depth " + depth, x.nodeAt(1, 0, depth), depth % 2 == 0 ? 9 * 256 : 10 * 256);
        }
        check.due("another output", x.nodeAt(0, 0, 0), 12 * 256 + 1);
        PeepholeRules y = States.fresh();
        Texts.output(y, "a2 not neg not neg not neg not neg");
        check.due("a leaf at depth 8", y.nodeAt(0, 0, 8), 12 * 256 + 2);
        check.due("a node above it", y.nodeAt(0, 0, 7), 9 * 256);
    }

    // A chain of eight binary nodes; the path 0xb2 leads to the constant 77, every turn off it to 0.
    private static PeepholeRules eightTurns() {
        PeepholeRules x = new PeepholeRules(32, 8);
        int n = x.addNode(11, 77, 0);
        int zero = x.addNode(11, 0, 0);
        for (int i = 7; i >= 0; i--) {
            boolean toB = (0xb2 >> i & 1) == 1;
            n = x.addNode(1 + i, toB ? zero : n, toB ? n : zero);
        }
        x.addOutput(n);
        return x;
    }

    private static void paths(Check check) {
        PeepholeRules x = States.fresh();
        Texts.output(x, "1 2 add 3 4 sub mul");
        check.due("A", x.nodeAt(0, 0, 1), 256);
        check.due("B", x.nodeAt(0, 1, 1), 512);
        check.due("A A", x.nodeAt(0, 0, 2), 2817);
        check.due("A B", x.nodeAt(0, 2, 2), 2818);
        check.due("B A", x.nodeAt(0, 1, 2), 2819);
        check.due("B B", x.nodeAt(0, 3, 2), 2820);
        PeepholeRules y = eightTurns();
        for (int depth = 0; depth < 8; depth++) {
            check.due("on the way at " + depth, y.nodeAt(0, 0xb2, depth), (1 + depth) * 256);
            check.due("off the way at " + depth, y.nodeAt(0, 0xb2 ^ 1 << depth, depth + 1), 11 * 256);
        }
        check.due("eight steps", y.nodeAt(0, 0xb2, 8), 11 * 256 + 77);
    }

    private static void bitsAbove(Check check) {
        PeepholeRules x = eightTurns();
        for (int depth = 0; depth <= 8; depth++) {
            int want = depth == 8 ? 11 * 256 + 77 : (1 + depth) * 256;
            int path = 0xb2 & (1 << depth) - 1;
            for (int above : new int[] {0, -1, LOW, HIGH, 0x55555555, 0xaaaaaaaa, 1 << depth}) {
                check.due("depth " + depth + ", above " + above, x.nodeAt(0, path | above << depth, depth), want);
            }
        }
        check.due("all bits at depth 0", x.nodeAt(0, -1, 0), 256);
        PeepholeRules leaf = States.fresh();
        Texts.output(leaf, "a0");
        check.due("a leaf, all bits at depth 0", leaf.nodeAt(0, -1, 0), 12 * 256);
    }

    private static void codes(Check check) {
        for (int kind = 1; kind <= 10; kind++) {
            PeepholeRules x = States.fresh();
            x.addNode(11, 200, 0);
            x.addNode(12, 3, 0);
            x.addOutput(x.addNode(kind, 1, 0));
            check.due("kind " + kind, x.nodeAt(0, 0, 0), kind * 256);
            check.due("operand A", x.nodeAt(0, 0, 1), 12 * 256 + 3);
            check.due("operand B", x.nodeAt(0, 1, 1), kind <= 8 ? 11 * 256 + 200 : -1);
        }
        PeepholeRules x = new PeepholeRules(32, 1);
        Texts.output(x, "0");
        Texts.output(x, "255");
        Texts.output(x, "a0");
        Texts.output(x, "a3");
        check.due("CONST 0", x.nodeAt(0, 0, 0), 2816);
        check.due("CONST 255", x.nodeAt(1, 0, 0), 3071);
        check.due("ARG 0", x.nodeAt(2, 0, 0), 3072);
        check.due("ARG 3", x.nodeAt(3, 0, 0), 3075);
    }

    private static void badOutputs(Check check) {
        int[] never = {LOW, -256, -1, 4, 5, 8, 256, HIGH};
        PeepholeRules x = States.fresh();
        Texts.nodes(x, "a0 not");
        for (int count = 0; count <= 4; count++) {
            for (int k : never) {
                check.due("output " + k + " of " + count, x.nodeAt(k, 0, 0), -1);
            }
            for (int k = 0; k < 4; k++) {
                check.due("output " + k + " of " + count, x.nodeAt(k, 0, 0), k < count ? 9 * 256 : -1);
            }
            x.addOutput(1);
        }
        check.due("OPTIMIZED, behind the last", States.optimized().nodeAt(2, 0, 0), -1);
        check.due("cleared", States.cleared().nodeAt(0, 0, 0), -1);
    }

    private static void badDepths(Check check) {
        PeepholeRules x = new PeepholeRules(32, 1);
        int n = x.addNode(12, 0, 0);
        for (int i = 1; i < 32; i++) {
            n = x.addNode(1, n, n);
        }
        x.addOutput(n);
        for (int depth : new int[] {LOW, LOW + 8, -256, -8, -1, 9, 10, 16, 31, 32, 256, 264, HIGH}) {
            check.due("depth " + depth, x.nodeAt(0, 0, depth), -1);
            check.due("depth " + depth + ", all bits", x.nodeAt(0, -1, depth), -1);
        }
        check.due("the least depth", x.nodeAt(0, 0, 0), 256);
        check.due("the greatest depth", x.nodeAt(0, -1, 8), 256);
    }

    private static void operandsOfLeaves(Check check) {
        PeepholeRules x = States.fresh();
        Texts.output(x, "a0 not");
        Texts.output(x, "5");
        Texts.output(x, "a1");
        check.due("A of an ARG", x.nodeAt(0, 0, 2), -1);
        check.due("B of an ARG", x.nodeAt(0, 2, 2), -1);
        check.due("A of an output's ARG", x.nodeAt(2, 0, 1), -1);
        check.due("B of an output's ARG", x.nodeAt(2, 1, 1), -1);
        check.due("A of a CONST", x.nodeAt(1, 0, 1), -1);
        check.due("B of a CONST", x.nodeAt(1, 1, 1), -1);
        for (int depth = 1; depth <= 8; depth++) {
            check.due("beyond a leaf, depth " + depth, x.nodeAt(1, 0, depth), -1);
        }
        PeepholeRules y = States.fresh();
        Texts.output(y, "a2 not neg not neg not neg not");
        check.due("at the last step", y.nodeAt(0, 0, 8), -1);
        check.due("before it", y.nodeAt(0, 0, 7), 12 * 256 + 2);
    }

    private static void operandBOfUnary(Check check) {
        PeepholeRules x = States.fresh();
        Texts.output(x, "a0 not");
        Texts.output(x, "a0 neg");
        Texts.output(x, "a0 not neg");
        check.due("B of NOT", x.nodeAt(0, 1, 1), -1);
        check.due("B of NEG", x.nodeAt(1, 1, 1), -1);
        check.due("A of NOT", x.nodeAt(0, 0, 1), 12 * 256);
        check.due("B of NOT below NEG", x.nodeAt(2, 2, 2), -1);
        check.due("A below a missing B", x.nodeAt(2, 1, 2), -1);
        check.due("far below a missing B", x.nodeAt(2, 1, 8), -1);
    }

    private static void optimised(Check check) {
        PeepholeRules x = States.fresh();
        Texts.accept(x, "k0 k1 add", "v0 v1 add");
        Texts.output(x, "a1 3 4 add sub");
        check.due("before", Texts.shape(x, 0), "a1 3 4 add sub");
        x.optimize();
        check.due("after", Texts.shape(x, 0), "a1 7 sub");
        check.due("the old operand is gone", x.nodeAt(0, 1, 2), -1);
        x.clearDag();
        check.due("cleared", x.nodeAt(0, 0, 0), -1);
        Texts.output(x, "a1 3 4 add sub");
        check.due("built again", Texts.shape(x, 0), "a1 3 4 add sub");
    }

    private static void changesNothing(Check check) {
        States.dueUnchangedInAll(check, "nodeAt", x -> {
            for (int k = -1; k <= 4; k++) {
                for (int depth = -1; depth <= 9; depth++) {
                    x.nodeAt(k, 0x5a, depth);
                    x.nodeAt(k, 0, depth);
                }
            }
        });
    }
}
