import java.io.IOException;

final class Promise07AddOutputTest {
    private static final int[] BAD_NODES = {
        Integer.MIN_VALUE, -256, -1, 16, 17, 31, 32, 33, 64, 256, Integer.MAX_VALUE
    };

    public static void main(String[] args) throws IOException {
        Sentences document = new Sentences("Promise 7");
        document.test("appends an output naming node n and answers its index 0..3", Promise07AddOutputTest::indices);
        document.test("It is refused (-1, no change)", Promise07AddOutputTest::refusedChangesNothing);
        document.test("in the OPTIMIZED phase", Promise07AddOutputTest::optimizedPhase);
        document.test("when there are already 4 outputs", Promise07AddOutputTest::fifthOutput);
        document.test("or when n is not an existing node", Promise07AddOutputTest::noSuchNode);
        document.test("Several outputs may name the same node.", Promise07AddOutputTest::sameNode);
        document.test("Nodes and rules do not change.", Promise07AddOutputTest::nothingElseChanges);
        document.finish();
    }

    private static PeepholeRules withConstants(int count) {
        PeepholeRules x = States.fresh();
        for (int i = 0; i < count; i++) {
            x.addNode(11, 10 * i, 0);
        }
        return x;
    }

    private static void indices(Check check) {
        PeepholeRules x = withConstants(5);
        int[] named = {4, 0, 2, 1};
        for (int k = 0; k < 4; k++) {
            check.due("output " + k, x.addOutput(named[k]), k);
            check.due("count", x.stat(6), k + 1);
            check.due("refused ones take no index", x.addOutput(-1), -1);
        }
        for (int k = 0; k < 4; k++) {
            check.due("value of output " + k, x.eval(k, 0, false), 10 * named[k]);
            check.due("node of output " + k, x.nodeAt(k, 0, 0), 11 * 256 + 10 * named[k]);
        }
        check.due("live", x.stat(0), 4);
    }

    private static void refusedChangesNothing(Check check) {
        States.dueUnchangedInAll(check, "no such node", x -> {
            for (int n : BAD_NODES) {
                x.addOutput(n);
            }
        });
        States.dueUnchanged(check, "OPTIMIZED", () -> States.drafted(States.optimized()), x -> x.addOutput(0));
        States.dueUnchanged(check, "four outputs", () -> States.drafted(States.full()), x -> x.addOutput(3));
    }

    private static void optimizedPhase(Check check) {
        PeepholeRules x = withConstants(2);
        x.addOutput(0);
        x.optimize();
        check.due("a live node", x.addOutput(0), -1);
        check.due("a deleted one", x.addOutput(1), -1);
        check.due("count", x.stat(6), 1);
        x.optimize();
        check.due("after a second optimize", x.addOutput(0), -1);
        PeepholeRules none = withConstants(1);
        none.optimize();
        check.due("with no output yet", none.addOutput(0), -1);
        x.clearDag();
        check.due("the node is gone", x.addOutput(0), -1);
        x.addNode(12, 0, 0);
        check.due("clearDag ends the phase", x.addOutput(0), 0);
    }

    private static void fifthOutput(Check check) {
        PeepholeRules x = withConstants(5);
        for (int k = 0; k < 4; k++) {
            check.due("output " + k, x.addOutput(k), k);
        }
        for (int n = 0; n < 5; n++) {
            check.due("a fifth, of node " + n, x.addOutput(n), -1);
        }
        check.due("count stays", x.stat(6), 4);
        check.due("no fifth value", x.eval(4, 0, false), -1);
        check.due("output 3 stays", x.eval(3, 0, false), 30);
        check.due("live", x.stat(0), 4);
        x.clearDag();
        x.addNode(12, 0, 0);
        check.due("clearDag makes room", x.addOutput(0), 0);
    }

    private static void noSuchNode(Check check) {
        check.due("no node yet", States.fresh().addOutput(0), -1);
        PeepholeRules x = withConstants(2);
        for (int n : BAD_NODES) {
            check.due("node " + n, x.addOutput(n), -1);
        }
        check.due("behind the last", x.addOutput(2), -1);
        check.due("none was taken", x.stat(6), 0);
        check.due("the last node", x.addOutput(1), 0);
        check.due("the first node", x.addOutput(0), 1);
        PeepholeRules y = withConstants(16);
        check.due("behind the last there can be", y.addOutput(16), -1);
        check.due("the last there can be", y.addOutput(15), 0);
    }

    private static void sameNode(Check check) {
        PeepholeRules x = States.fresh();
        Texts.nodes(x, "a0 a1 add");
        for (int k = 0; k < 4; k++) {
            check.due("again", x.addOutput(2), k);
        }
        check.due("live nodes count once", x.stat(0), 3);
        check.due("cost counts once", x.stat(1), 1);
        check.due("outputs", x.stat(6), 4);
        x.optimize();
        for (int k = 0; k < 4; k++) {
            check.due("shape", Texts.shape(x, k), "a0 a1 add");
            check.due("value", x.eval(k, 0x0203, true), 5);
        }
    }

    private static void nothingElseChanges(Check check) {
        PeepholeRules x = States.drafted(States.built());
        x.addOutput(2);
        check.due("nodes", x.stat(8), 11);
        check.due("rules", x.stat(4), 2);
        check.due("counterexample", x.stat(5), 256);
        check.due("phase", x.stat(7), 0);
        check.due("applications", x.stat(3), 0);
        check.due("the other outputs", Texts.shape(x, 0) + ", " + Texts.shape(x, 1), "a0 not not a1 add, a2 9 shl");
        check.due("the new one", Texts.shape(x, 2), "a0 not not");
        check.due("the next node", x.addNode(12, 0, 0), 11);
        check.due("the draft stays", x.ruleCommit(), 0);
        check.due("the rules act", x.optimize(), 2);
    }
}
