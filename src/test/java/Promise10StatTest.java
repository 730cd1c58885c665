import java.io.IOException;

final class Promise10StatTest {
    private static final int[] OUTSIDE = {
        Integer.MIN_VALUE, -256, -9, -2, -1, 9, 10, 11, 16, 256, 257, 264, Integer.MAX_VALUE
    };

    public static void main(String[] args) throws IOException {
        Sentences document = new Sentences("Promise 10");
        document.test("answers -1 for a selector outside 0..8", Promise10StatTest::outside);
        document.opens("Otherwise:");
        document.test("STAT_LIVE_NODES: count of live nodes.", Promise10StatTest::liveNodes);
        document.test("STAT_LIVE_COST: sum of their weights.", Promise10StatTest::liveCost);
        document.test("STAT_ORIG_COST: the same sum for the ORIGINAL", Promise10StatTest::originalCost);
        document.test("in the BUILDING phase it equals LIVE_COST", Promise10StatTest::originalCostInBuilding);
        document.test("STAT_APPLICATIONS: applications since the start or the last clearDag.", Promise10StatTest::applications);
        document.test("STAT_RULES: rule count.", Promise10StatTest::rules);
        document.test("STAT_COUNTEREXAMPLE: as set by ruleCommit.", Promise10StatTest::counterexample);
        document.test("STAT_OUTPUTS: output count.", Promise10StatTest::outputs);
        document.test("STAT_PHASE: 0 for BUILDING, 1 for OPTIMIZED.", Promise10StatTest::phase);
        document.test("STAT_NODES: in the BUILDING phase, nodes added; otherwise live nodes.", Promise10StatTest::nodes);
        document.test("It changes nothing.", Promise10StatTest::changesNothing);
        document.finish();
    }

    private static void outside(Check check) {
        States.all().forEach((name, made) -> {
            PeepholeRules x = made.get();
            for (int which : OUTSIDE) {
                check.due(name + ", stat " + which, x.stat(which), -1);
            }
        });
        PeepholeRules full = States.full();
        check.due("the first inside", full.stat(0), 8);
        check.due("the last inside", full.stat(8), 8);
    }

    // a0 + a1, squared, with a dead negation above.
    private static PeepholeRules square() {
        PeepholeRules x = States.fresh();
        int sum = Texts.nodes(x, "a0 a1 add");
        int product = x.addNode(3, sum, sum);
        x.addNode(10, product, 0);
        return x;
    }

    private static PeepholeRules largest(int kind) {
        PeepholeRules x = new PeepholeRules(32, 1);
        int n = x.addNode(12, 0, 0);
        for (int i = 1; i < 32; i++) {
            n = x.addNode(kind, n, n);
        }
        x.addOutput(n);
        return x;
    }

    private static void liveNodes(Check check) {
        PeepholeRules x = square();
        check.due("no output", x.stat(0), 0);
        x.addOutput(0);
        check.due("a leaf", x.stat(0), 1);
        x.addOutput(2);
        check.due("the sum", x.stat(0), 3);
        x.addOutput(3);
        check.due("the square", x.stat(0), 4);
        x.addOutput(3);
        check.due("the square twice", x.stat(0), 4);
        check.due("all of 32 nodes", largest(3).stat(0), 32);
        check.due("after optimize", States.optimized().stat(0), 4);
        check.due("none", States.cleared().stat(0), 0);
    }

    private static void liveCost(Check check) {
        PeepholeRules x = square();
        check.due("no output", x.stat(1), 0);
        x.addOutput(0);
        check.due("a leaf", x.stat(1), 0);
        x.addOutput(2);
        check.due("the sum", x.stat(1), 1);
        x.addOutput(3);
        check.due("the square, its operand counted once", x.stat(1), 4);
        x.addOutput(3);
        check.due("the square twice", x.stat(1), 4);
        check.due("the greatest", largest(3).stat(1), 93);
        check.due("31 unary nodes", largest(9).stat(1), 31);
        check.due("after optimize", States.optimized().stat(1), 1);
    }

    private static void originalCost(Check check) {
        check.due("after optimize", States.optimized().stat(2), 4);
        PeepholeRules x = largest(3);
        x.optimize();
        check.due("the greatest", x.stat(2), 93);
        PeepholeRules y = square();
        y.addOutput(2);
        y.optimize();
        check.due("dead nodes cost nothing", y.stat(2), 1);
        PeepholeRules z = square();
        z.optimize();
        check.due("no output", z.stat(2), 0);
        PeepholeRules gone = States.fresh();
        Texts.accept(gone, "v0 0 mul", "0");
        Texts.output(gone, "a0 0 mul");
        gone.optimize();
        check.due("it stays when all cost is gone", gone.stat(2), 3);
        check.due("live cost", gone.stat(1), 0);
    }

    private static void originalCostInBuilding(Check check) {
        PeepholeRules x = square();
        check.due("no output", x.stat(2), 0);
        x.addOutput(2);
        check.due("the sum", x.stat(2), 1);
        x.addOutput(3);
        check.due("the square", x.stat(2), 4);
        PeepholeRules y = States.cleared();
        check.due("after clearDag", y.stat(2), 0);
        Texts.output(y, "a0 a1 mul");
        check.due("of a later DAG", y.stat(2), 3);
    }

    private static void applications(Check check) {
        check.due("at the start", States.fresh().stat(3), 0);
        check.due("while building", States.built().stat(3), 0);
        PeepholeRules x = States.optimized();
        check.due("after optimize", x.stat(3), 2);
        x.optimize();
        check.due("after a call that makes none", x.stat(3), 2);
        Texts.accept(x, "v0 v1 add 0 add", "v0 v1 add");
        check.due("after a new rule", x.stat(3), 2);
        x.clearDag();
        check.due("after clearDag", x.stat(3), 0);
        Texts.output(x, "a0 not not 0 add");
        x.optimize();
        check.due("since clearDag", x.stat(3), 1);
        Texts.accept(x, "v0 0 add", "v0");
        x.optimize();
        check.due("over two calls", x.stat(3), 2);
    }

    private static void rules(Check check) {
        PeepholeRules x = new PeepholeRules(8, 16);
        for (int r = 0; r < 16; r++) {
            check.due("count", x.stat(4), r);
            Texts.accept(x, "v0 not not", "v0");
            Texts.commit(x, "v0 not", "v0");
        }
        check.due("full", x.stat(4), 16);
        x.clearDag();
        check.due("after clearDag", x.stat(4), 16);
    }

    private static void counterexample(Check check) {
        PeepholeRules x = States.fresh();
        check.due("at the start", x.stat(5), -1);
        Texts.commit(x, "v0 v1 add", "1");
        check.due("the least", x.stat(5), 0);
        Texts.commit(x, "1 v0 v1 and not shr", "0");
        check.due("the greatest", x.stat(5), 65535);
        x.ruleCommit();
        check.due("after another verdict", x.stat(5), -1);
        PeepholeRules y = States.drafted(States.built());
        y.optimize();
        y.clearDag();
        y.ruleBegin();
        check.due("other calls leave it", y.stat(5), 256);
    }

    private static void outputs(Check check) {
        PeepholeRules x = States.fresh();
        x.addNode(12, 0, 0);
        for (int k = 0; k < 4; k++) {
            check.due("count", x.stat(6), k);
            x.addOutput(0);
            x.addOutput(9);
        }
        check.due("four", x.stat(6), 4);
        x.addOutput(0);
        check.due("still four", x.stat(6), 4);
        x.optimize();
        check.due("after optimize", x.stat(6), 4);
        x.clearDag();
        check.due("after clearDag", x.stat(6), 0);
    }

    private static void phase(Check check) {
        check.due("new", States.fresh().stat(7), 0);
        check.due("built", States.built().stat(7), 0);
        check.due("optimised", States.optimized().stat(7), 1);
        check.due("cleared", States.cleared().stat(7), 0);
    }

    private static void nodes(Check check) {
        PeepholeRules x = States.fresh();
        for (int n = 0; n < 16; n++) {
            check.due("nodes added", x.stat(8), n);
            x.addNode(11, n, 0);
            x.addNode(13, 0, 0);
        }
        check.due("full", x.stat(8), 16);
        x.addOutput(4);
        check.due("an output adds none", x.stat(8), 16);
        x.optimize();
        check.due("live nodes", x.stat(8), 1);
        PeepholeRules y = States.fresh();
        Texts.accept(y, "v0 2 mul", "v0 v0 add");
        Texts.output(y, "a0 2 mul not");
        check.due("before", y.stat(8), 4);
        y.optimize();
        check.due("after an application", y.stat(8), 3);
        PeepholeRules z = square();
        z.optimize();
        check.due("none is live", z.stat(8), 0);
    }

    private static void changesNothing(Check check) {
        States.dueUnchangedInAll(check, "stat", x -> {
            for (int which = -1; which <= 9; which++) {
                x.stat(which);
            }
        });
    }
}
