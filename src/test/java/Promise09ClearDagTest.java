import java.io.IOException;

final class Promise09ClearDagTest {
    public static void main(String[] args) throws IOException {
        Sentences document = new Sentences("Promise 9");
        document.test("`clearDag()` removes all nodes and outputs", Promise09ClearDagTest::nodesAndOutputs);
        document.test("and the ORIGINAL", Promise09ClearDagTest::original);
        document.test("sets the application count and every rule's use count to 0", Promise09ClearDagTest::counts);
        document.test("and makes the phase BUILDING", Promise09ClearDagTest::phase);
        document.test("The next node added gets number 0.", Promise09ClearDagTest::nextNode);
        document.test("Rules, the draft and the counterexample stay.", Promise09ClearDagTest::theRestStays);
        document.finish();
    }

    private static void nodesAndOutputs(Check check) {
        States.all().forEach((name, made) -> {
            PeepholeRules x = made.get();
            x.clearDag();
            for (int which : new int[] {0, 1, 2, 6, 8}) {
                check.due(name + ", stat " + which, x.stat(which), 0);
            }
            for (int op = 1; op <= 12; op++) {
                check.due(name + ", countOp " + op, x.countOp(op), 0);
            }
            for (int k = 0; k < 4; k++) {
                check.due(name + ", value of " + k, x.eval(k, 0, false), -1);
                check.due(name + ", node of " + k, x.nodeAt(k, 0, 0), -1);
            }
            check.due(name + ", no node to name", x.addOutput(0), -1);
            check.due(name + ", no operand", x.addNode(9, 0, 0), -1);
            x.addNode(12, 0, 0);
            check.due(name + ", first output", x.addOutput(0), 0);
        });
        PeepholeRules twice = States.built();
        twice.clearDag();
        twice.clearDag();
        check.due("cleared twice", twice.stat(8), 0);
    }

    private static void original(Check check) {
        PeepholeRules x = States.optimized();
        check.due("it was there", x.stat(2), 4);
        x.clearDag();
        check.due("cost", x.stat(2), 0);
        check.due("value", x.eval(0, 0, true), -1);
        Texts.output(x, "3");
        check.due("the new DAG stands for it", x.eval(0, 0, true), 3);
        check.due("with its cost", x.stat(2), 0);
        x.optimize();
        check.due("and is kept in turn", x.eval(0, 0, true), 3);
        check.due("with one output", x.eval(1, 0, true), -1);
        PeepholeRules y = States.cleared();
        y.optimize();
        check.due("an empty one is kept", y.stat(2), 0);
        check.due("it has no output", y.eval(0, 0, true), -1);
    }

    private static void counts(Check check) {
        PeepholeRules x = new PeepholeRules(32, 16);
        for (int r = 0; r < 16; r++) {
            Texts.acceptIf(x, Texts.pre(1, 0, r), "k0 not", "v0 not");
        }
        for (int first = 0; first <= 12; first += 4) {
            for (int r = first; r < first + 4; r++) {
                Texts.output(x, r + " not");
            }
            check.due("applications", x.optimize(), 4);
            check.due("application count", x.stat(3), 4);
            for (int r = first; r < first + 4; r++) {
                check.due("uses of " + r, x.ruleUses(r), 1);
            }
            x.clearDag();
            check.due("application count, cleared", x.stat(3), 0);
            for (int r = 0; r < 16; r++) {
                check.due("uses of " + r + ", cleared", x.ruleUses(r), 0);
            }
        }
        check.due("still no rule 16", x.ruleUses(16), -1);
    }

    private static void phase(Check check) {
        PeepholeRules x = States.optimized();
        x.clearDag();
        check.due("after OPTIMIZED", x.stat(7), 0);
        check.due("nodes are taken", x.addNode(12, 0, 0), 0);
        check.due("outputs are taken", x.addOutput(0), 0);
        PeepholeRules y = States.built();
        y.clearDag();
        check.due("after BUILDING", y.stat(7), 0);
        PeepholeRules z = States.fresh();
        z.clearDag();
        check.due("of a new object", z.stat(7), 0);
    }

    private static void nextNode(Check check) {
        PeepholeRules x = States.full();
        for (int round = 0; round < 3; round++) {
            x.clearDag();
            for (int n = 0; n < 8; n++) {
                check.due("round " + round + ", node " + n, x.addNode(11, n, 0), n);
            }
            check.due("round " + round + ", one too many", x.addNode(11, 8, 0), -1);
            x.addOutput(7);
            x.optimize();
        }
        PeepholeRules y = States.fresh();
        y.clearDag();
        check.due("a new object", y.addNode(11, 3, 0), 0);
    }

    private static void theRestStays(Check check) {
        PeepholeRules x = States.drafted(States.optimized());
        x.clearDag();
        check.due("rules", x.stat(4), 2);
        check.due("counterexample", x.stat(5), 256);
        Texts.output(x, "a0 not not 8 shl 7 shl");
        check.due("the rules act, with their preconditions", x.optimize(), 2);
        check.due("the draft", x.ruleCommit(), 0);
        check.due("trees of half a draft", States.trees(() -> {
            PeepholeRules y = States.halfDrafted(States.built());
            y.clearDag();
            return y;
        }), States.trees(() -> States.halfDrafted(States.built())));
        // A cleared object answers as one on which no DAG was ever built.
        States.dueSame(check, "as without a DAG", States::cleared, () -> {
            PeepholeRules y = States.fresh();
            Texts.accept(y, "v0 not not", "v0");
            Texts.acceptIf(y, Texts.pre(4, 1, 8), "v0 k1 shl", "0");
            Texts.commit(y, "v1 neg", "v1");
            return y;
        });
    }
}
