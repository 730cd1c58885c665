final class Promise11CountOpTest {
    public static void main(String[] args) {
        Check check = new Check();
        outside(check);
        everyKind(check);
        onlyLiveNodes(check);
        sharedNodesCountOnce(check);
        afterOptimize(check);
        check.finish();
    }

    private static void outside(Check check) {
        PeepholeRules x = new PeepholeRules(16, 8);
        Texts.output(x, "a0 not");
        for (int op : new int[] {Integer.MIN_VALUE, -1, 0, 13, 14, 15, 257, Integer.MAX_VALUE}) {
            check.due("countOp " + op, x.countOp(op), -1);
        }
        x.optimize();
        check.due("deleted nodes are of no kind", x.countOp(0), -1);
    }

    private static void everyKind(Check check) {
        for (int kind = 1; kind <= 12; kind++) {
            PeepholeRules x = new PeepholeRules(16, 8);
            x.addNode(12, 0, 0);
            x.addNode(11, 3, 0);
            x.addOutput(0);
            x.addOutput(1);
            x.addOutput(x.addNode(kind, 0, 1));
            x.addOutput(x.addNode(kind, 1, 0));
            for (int op = 1; op <= 12; op++) {
                int want = (op >= 11 ? 1 : 0) + (op == kind ? 2 : 0);
                check.due("countOp " + op + " beside " + kind, x.countOp(op), want);
            }
        }
    }

    private static void onlyLiveNodes(Check check) {
        PeepholeRules x = new PeepholeRules(16, 8);
        Texts.nodes(x, "a0 not not");
        check.due("no output", x.countOp(9), 0);
        x.addOutput(1);
        check.due("one NOT is live", x.countOp(9), 1);
        x.addOutput(2);
        check.due("both are live", x.countOp(9), 2);
        check.due("ARG", x.countOp(12), 1);
    }

    private static void sharedNodesCountOnce(Check check) {
        PeepholeRules x = new PeepholeRules(16, 8);
        int n = Texts.nodes(x, "a0 not");
        x.addOutput(x.addNode(1, n, n));
        x.addOutput(n);
        check.due("NOT", x.countOp(9), 1);
        check.due("ADD", x.countOp(1), 1);
    }

    private static void afterOptimize(Check check) {
        PeepholeRules x = new PeepholeRules(16, 8);
        Texts.commit(x, "v0 2 mul", "v0 v0 add");
        Texts.output(x, "a0 2 mul a1 2 mul xor");
        check.due("MUL before", x.countOp(3), 2);
        String before = Texts.state(x);
        x.countOp(3);
        check.due("it changes nothing", Texts.state(x), before);
        x.optimize();
        check.due("MUL after", x.countOp(3), 0);
        check.due("ADD after", x.countOp(1), 2);
        check.due("CONST after", x.countOp(11), 0);
        check.due("ARG after", x.countOp(12), 2);
        check.due("XOR after", x.countOp(6), 1);
    }
}
