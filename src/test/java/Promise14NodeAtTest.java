final class Promise14NodeAtTest {
    private static final int LOW = Integer.MIN_VALUE;
    private static final int HIGH = Integer.MAX_VALUE;

    public static void main(String[] args) {
        Check check = new Check();
        codes(check);
        badOutputs(check);
        depths(check);
        paths(check);
        missingOperands(check);
        optimised(check);
        changesNothing(check);
        check.finish();
    }

    private static void codes(Check check) {
        for (int kind = 1; kind <= 10; kind++) {
            PeepholeRules x = new PeepholeRules(16, 8);
            x.addNode(11, 200, 0);
            x.addNode(12, 3, 0);
            x.addOutput(x.addNode(kind, 1, 0));
            check.due("kind " + kind, x.nodeAt(0, 0, 0), kind * 256);
            check.due("operand A", x.nodeAt(0, 0, 1), 12 * 256 + 3);
            check.due("operand B", x.nodeAt(0, 1, 1), kind <= 8 ? 11 * 256 + 200 : -1);
        }
        PeepholeRules x = new PeepholeRules(16, 8);
        Texts.output(x, "0");
        Texts.output(x, "255");
        Texts.output(x, "a0");
        Texts.output(x, "a3");
        check.due("CONST 0", x.nodeAt(0, 0, 0), 2816);
        check.due("CONST 255", x.nodeAt(1, 0, 0), 3071);
        check.due("ARG 0", x.nodeAt(2, 0, 0), 3072);
        check.due("ARG 3", x.nodeAt(3, 0, 0), 3075);
    }

    private static void badOutputs(Check check) {
        PeepholeRules x = new PeepholeRules(16, 8);
        check.due("none", x.nodeAt(0, 0, 0), -1);
        Texts.nodes(x, "a0 not");
        check.due("still none", x.nodeAt(0, 0, 0), -1);
        x.addOutput(1);
        for (int k : new int[] {LOW, -1, 1, 2, 4, HIGH}) {
            check.due("output " + k, x.nodeAt(k, 0, 0), -1);
        }
    }

    private static void depths(Check check) {
        PeepholeRules x = new PeepholeRules(16, 8);
        Texts.output(x, "a2 not neg not neg not neg not neg not");
        for (int depth = 0; depth <= 8; depth++) {
            check.due("depth " + depth, x.nodeAt(0, 0, depth), depth % 2 == 0 ? 9 * 256 : 10 * 256);
        }
        for (int depth : new int[] {LOW, -1, 9, 10, 256, HIGH}) {
            check.due("depth " + depth, x.nodeAt(0, 0, depth), -1);
        }
        PeepholeRules y = new PeepholeRules(16, 8);
        Texts.output(y, "a2 not neg not neg not neg not neg");
        check.due("a leaf at depth 8", y.nodeAt(0, 0, 8), 12 * 256 + 2);
        check.due("beyond it", y.nodeAt(0, 0, 9), -1);
    }

    private static void paths(Check check) {
        PeepholeRules x = new PeepholeRules(16, 8);
        Texts.output(x, "1 2 add 3 4 sub mul");
        check.due("A A", x.nodeAt(0, 0, 2), 2817);
        check.due("A B", x.nodeAt(0, 2, 2), 2818);
        check.due("B A", x.nodeAt(0, 1, 2), 2819);
        check.due("B B", x.nodeAt(0, 3, 2), 2820);
        check.due("bits from depth upward play no part", x.nodeAt(0, -2, 1), 256);
        check.due("nor here", x.nodeAt(0, -1, 1), 512);
        check.due("nor at depth 0", x.nodeAt(0, -1, 0), 768);
        check.due("nor the sign", x.nodeAt(0, LOW + 2, 2), 2818);
        PeepholeRules y = new PeepholeRules(32, 8);
        int n = y.addNode(11, 77, 0);
        int zero = y.addNode(11, 0, 0);
        for (int i = 7; i >= 0; i--) {
            boolean toB = (0xb2 >> i & 1) == 1;
            n = y.addNode(1 + i, toB ? zero : n, toB ? n : zero);
        }
        y.addOutput(n);
        check.due("eight steps", y.nodeAt(0, 0xb2, 8), 11 * 256 + 77);
        check.due("bits above them", y.nodeAt(0, 0xffffffb2, 8), 11 * 256 + 77);
        check.due("the last bit is one of them", y.nodeAt(0, 0x32, 8), 11 * 256);
    }

    private static void missingOperands(Check check) {
        PeepholeRules x = new PeepholeRules(16, 8);
        Texts.output(x, "a0 not");
        Texts.output(x, "5");
        check.due("B of a unary node", x.nodeAt(0, 1, 1), -1);
        check.due("A of an ARG", x.nodeAt(0, 0, 2), -1);
        check.due("B of an ARG", x.nodeAt(0, 2, 2), -1);
        check.due("A of a CONST", x.nodeAt(1, 0, 1), -1);
        check.due("B of a CONST", x.nodeAt(1, 1, 1), -1);
        check.due("beyond a missing one", x.nodeAt(0, 1, 3), -1);
        check.due("far beyond a leaf", x.nodeAt(1, 0, 8), -1);
    }

    private static void optimised(Check check) {
        PeepholeRules x = new PeepholeRules(16, 8);
        Texts.commit(x, "k0 k1 add", "v0 v1 add");
        Texts.output(x, "a1 3 4 add sub");
        check.due("before", Texts.shape(x, 0), "a1 3 4 add sub");
        x.optimize();
        check.due("after", Texts.shape(x, 0), "a1 7 sub");
        check.due("the old operand is gone", x.nodeAt(0, 1, 2), -1);
        x.clearDag();
        check.due("cleared", x.nodeAt(0, 0, 0), -1);
    }

    private static void changesNothing(Check check) {
        PeepholeRules x = new PeepholeRules(16, 8);
        Texts.commit(x, "v0 not not", "v0");
        Texts.output(x, "a0 not not a1 mul");
        for (int round = 0; round < 2; round++) {
            String before = Texts.state(x);
            x.nodeAt(0, 5, 3);
            x.nodeAt(0, 0, 1);
            x.nodeAt(9, 0, 0);
            check.due("state", Texts.state(x), before);
            x.optimize();
        }
    }
}
