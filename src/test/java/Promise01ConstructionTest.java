import java.io.IOException;

final class Promise01ConstructionTest {
    private static final int LOW = Integer.MIN_VALUE;
    private static final int HIGH = Integer.MAX_VALUE;

    public static void main(String[] args) throws IOException {
        Sentences document = new Sentences("Promise 1");
        document.test("accepts any ints", Promise01ConstructionTest::anyInts);
        document.test("maxNodes is clamped into 8..32", Promise01ConstructionTest::nodesInside);
        document.test("and maxRules into 1..16", Promise01ConstructionTest::rulesInside);
        document.test("a value below the least becomes the least", Promise01ConstructionTest::belowTheLeast);
        document.test("a value above the greatest becomes the greatest", Promise01ConstructionTest::aboveTheGreatest);
        document.test("The clamped values are the ones used everywhere below", Promise01ConstructionTest::usedEverywhere);
        document.test("The new object is in the BUILDING phase", Promise01ConstructionTest::building);
        document.test("It has no nodes", Promise01ConstructionTest::noNodes);
        document.test("no outputs", Promise01ConstructionTest::noOutputs);
        document.test("no rules", Promise01ConstructionTest::noRules);
        document.test("empty pattern, empty replacement", Promise01ConstructionTest::emptyTrees);
        document.test("precondition PRE_NONE", Promise01ConstructionTest::noPrecondition);
        document.test("application count 0", Promise01ConstructionTest::noApplications);
        document.test("and counterexample -1", Promise01ConstructionTest::noCounterexample);
        document.test("So stat answers 0 for every selector in 0..8 except", Promise01ConstructionTest::everySelector);
        document.finish();
    }

    private static void dueNodes(Check check, int given, int want) {
        PeepholeRules x = new PeepholeRules(given, 4);
        for (int n = 0; n < want; n++) {
            check.due("node of maxNodes " + given, x.addNode(12, 0, 0), n);
        }
        check.due("node too many of maxNodes " + given, x.addNode(12, 0, 0), -1);
        check.due("nodes of maxNodes " + given, x.stat(8), want);
    }

    private static void dueRules(Check check, int given, int want) {
        PeepholeRules x = new PeepholeRules(8, given);
        for (int r = 0; r < want; r++) {
            check.due("rule of maxRules " + given, Texts.commit(x, "v0 not not", "v0"), 0);
        }
        check.due("rule too many of maxRules " + given, Texts.commit(x, "v0 not not", "v0"), 1);
        check.due("rules of maxRules " + given, x.stat(4), want);
    }

    private static void anyInts(Check check) {
        int[] given = {LOW, LOW + 1, -65536, -256, -1, 0, 1, 8, 16, 32, 256, 65536, HIGH - 1, HIGH};
        for (int maxNodes : given) {
            for (int maxRules : given) {
                PeepholeRules x = new PeepholeRules(maxNodes, maxRules);
                Texts.accept(x, "v0 not not", "v0");
                Texts.output(x, "a0 not not");
                check.due("works with " + maxNodes + " and " + maxRules, x.optimize(), 1);
            }
        }
    }

    private static void nodesInside(Check check) {
        for (int maxNodes = 8; maxNodes <= 32; maxNodes++) {
            dueNodes(check, maxNodes, maxNodes);
        }
    }

    private static void rulesInside(Check check) {
        for (int maxRules = 1; maxRules <= 16; maxRules++) {
            dueRules(check, maxRules, maxRules);
        }
    }

    private static void belowTheLeast(Check check) {
        for (int given : new int[] {7, 6, 1, 0, -1, -8, -32, LOW + 32, LOW}) {
            dueNodes(check, given, 8);
        }
        for (int given : new int[] {0, -1, -2, -16, LOW + 16, LOW}) {
            dueRules(check, given, 1);
        }
    }

    private static void aboveTheGreatest(Check check) {
        for (int given : new int[] {33, 34, 63, 64, 264, 65544, HIGH - 1, HIGH}) {
            dueNodes(check, given, 32);
        }
        for (int given : new int[] {17, 18, 32, 257, 65537, HIGH - 1, HIGH}) {
            dueRules(check, given, 16);
        }
    }

    // The rule asks for room for 2 nodes beside the live ones.
    private static int applicationsWith(int maxNodes, int live) {
        PeepholeRules x = new PeepholeRules(maxNodes, 0);
        Texts.accept(x, "v0 neg neg not", "v0 not");
        x.addOutput(Texts.chain(x, 9, Texts.nodes(x, "a0 neg neg not"), live));
        return x.optimize();
    }

    private static void usedEverywhere(Check check) {
        check.due("6 live nodes of 8", applicationsWith(-5, 6), 1);
        check.due("7 live nodes of 8", applicationsWith(-5, 7), 0);
        check.due("30 live nodes of 32", applicationsWith(1000, 30), 1);
        check.due("31 live nodes of 32", applicationsWith(1000, 31), 0);
        PeepholeRules least = new PeepholeRules(LOW, LOW);
        Texts.accept(least, "v0 not not", "v0");
        least.clearDag();
        check.due("one rule, also after clearDag", Texts.commit(least, "v0 neg neg", "v0"), 1);
        check.due("one rule number", least.ruleUses(0), 0);
        check.due("no second one", least.ruleUses(1), -1);
        for (int n = 0; n < 8; n++) {
            check.due("node " + n + " after clearDag", least.addNode(11, n, 0), n);
        }
        check.due("eight nodes after clearDag", least.addNode(11, 0, 0), -1);
        PeepholeRules greatest = new PeepholeRules(HIGH, HIGH);
        greatest.clearDag();
        for (int n = 0; n < 32; n++) {
            check.due("node " + n + " after clearDag", greatest.addNode(11, n, 0), n);
        }
        check.due("32 nodes after clearDag", greatest.addNode(11, 0, 0), -1);
    }

    private static void building(Check check) {
        PeepholeRules x = States.fresh();
        check.due("phase", x.stat(7), 0);
        check.due("nodes are taken", x.addNode(12, 0, 0), 0);
        check.due("outputs are taken", x.addOutput(0), 0);
    }

    private static void noNodes(Check check) {
        PeepholeRules x = States.fresh();
        check.due("nodes", x.stat(8), 0);
        for (int op = 1; op <= 12; op++) {
            check.due("countOp " + op, x.countOp(op), 0);
        }
        check.due("no node to name", x.addOutput(0), -1);
        check.due("no operand", x.addNode(9, 0, 0), -1);
        check.due("the first number is free", x.addNode(11, 0, 0), 0);
    }

    private static void noOutputs(Check check) {
        PeepholeRules x = States.fresh();
        check.due("outputs", x.stat(6), 0);
        for (int k = 0; k < 4; k++) {
            check.due("value of " + k, x.eval(k, 0, false), -1);
            check.due("original value of " + k, x.eval(k, 0, true), -1);
            check.due("node of " + k, x.nodeAt(k, 0, 0), -1);
        }
        x.addNode(12, 0, 0);
        check.due("the first index is free", x.addOutput(0), 0);
    }

    private static void noRules(Check check) {
        PeepholeRules x = States.fresh();
        check.due("rules", x.stat(4), 0);
        check.due("uses", x.ruleUses(0), -1);
        Texts.output(x, "a0 not not");
        check.due("nothing is applied", x.optimize(), 0);
    }

    private static void emptyTrees(Check check) {
        check.due("both trees", States.trees(States::fresh), States.EMPTY_TREES);
        check.due("verdict of the empty draft", States.fresh().ruleCommit(), 2);
    }

    private static void noPrecondition(Check check) {
        PeepholeRules x = States.fresh();
        check.due("no CVAR is asked for", Texts.commit(x, "v0 not not", "v0"), 0);
        PeepholeRules y = States.fresh();
        check.due("all values are checked", Texts.commit(y, "k0 v1 and", "0"), 6);
        check.due("from the first on", y.stat(5), 257);
    }

    private static void noApplications(Check check) {
        PeepholeRules x = States.fresh();
        check.due("at the start", x.stat(3), 0);
        Texts.accept(x, "v0 not not", "v0");
        Texts.output(x, "a0 not not");
        x.optimize();
        check.due("one is one more", x.stat(3), 1);
    }

    private static void noCounterexample(Check check) {
        PeepholeRules x = States.fresh();
        check.due("at the start", x.stat(5), -1);
        Texts.output(x, "a0 not not");
        x.optimize();
        x.ruleBegin();
        x.clearDag();
        check.due("before the first ruleCommit", x.stat(5), -1);
    }

    private static void everySelector(Check check) {
        for (int given : new int[] {LOW, 0, 8, 32, HIGH}) {
            PeepholeRules x = new PeepholeRules(given, given);
            for (int which = 0; which <= 8; which++) {
                check.due("stat " + which + " of " + given, x.stat(which), which == 5 ? -1 : 0);
            }
        }
        PeepholeRules x = States.fresh();
        String before = Texts.state(x);
        check.due("another object is used", States.future(States::optimized).isEmpty(), false);
        check.due("its calls are not seen", Texts.state(x), before);
    }
}
