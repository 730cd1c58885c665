final class Promise07AddOutputTest {
    public static void main(String[] args) {
        Check check = new Check();
        indices(check);
        badNodes(check);
        sameNode(check);
        optimizedPhase(check);
        nothingElseChanges(check);
        check.finish();
    }

    private static void indices(Check check) {
        PeepholeRules x = new PeepholeRules(16, 8);
        for (int i = 0; i < 5; i++) {
            x.addNode(11, 10 * i, 0);
        }
        int[] named = {4, 0, 2, 1};
        for (int k = 0; k < 4; k++) {
            check.due("output " + k, x.addOutput(named[k]), k);
            check.due("count", x.stat(6), k + 1);
        }
        check.due("a fifth", x.addOutput(3), -1);
        check.due("count stays", x.stat(6), 4);
        for (int k = 0; k < 4; k++) {
            check.due("value of output " + k, x.eval(k, 0, false), 10 * named[k]);
        }
        check.due("live", x.stat(0), 4);
    }

    private static void badNodes(Check check) {
        PeepholeRules x = new PeepholeRules(16, 8);
        check.due("no node yet", x.addOutput(0), -1);
        x.addNode(12, 0, 0);
        x.addNode(12, 0, 0);
        for (int n : new int[] {Integer.MIN_VALUE, -1, 2, 3, 16, 32, 64, Integer.MAX_VALUE}) {
            check.due("node " + n, x.addOutput(n), -1);
        }
        check.due("none was taken", x.stat(6), 0);
        check.due("the last node", x.addOutput(1), 0);
    }

    private static void sameNode(Check check) {
        PeepholeRules x = new PeepholeRules(16, 8);
        Texts.nodes(x, "a0 a1 add");
        for (int k = 0; k < 4; k++) {
            check.due("again", x.addOutput(2), k);
        }
        check.due("live nodes count once", x.stat(0), 3);
        check.due("cost counts once", x.stat(1), 1);
        x.optimize();
        for (int k = 0; k < 4; k++) {
            check.due("shape", Texts.shape(x, k), "a0 a1 add");
        }
    }

    private static void optimizedPhase(Check check) {
        PeepholeRules x = new PeepholeRules(16, 8);
        x.addNode(12, 0, 0);
        x.addOutput(0);
        x.optimize();
        check.due("OPTIMIZED", x.addOutput(0), -1);
        check.due("count", x.stat(6), 1);
        x.clearDag();
        check.due("the node is gone", x.addOutput(0), -1);
        x.addNode(12, 0, 0);
        check.due("after clearDag", x.addOutput(0), 0);
    }

    private static void nothingElseChanges(Check check) {
        PeepholeRules x = new PeepholeRules(16, 8);
        Texts.commit(x, "v0 not not", "v0");
        Texts.commit(x, "v0 not", "v0");
        Texts.nodes(x, "a0 not not");
        x.addOutput(2);
        check.due("nodes", x.stat(8), 3);
        check.due("rules", x.stat(4), 1);
        check.due("counterexample", x.stat(5), 0);
        check.due("phase", x.stat(7), 0);
        String before = Texts.state(x);
        x.addOutput(3);
        x.addOutput(-1);
        check.due("refused calls", Texts.state(x), before);
    }
}
