import java.io.IOException;
import java.util.regex.Matcher;
import java.util.regex.Pattern;

final class WhatItIsTest {
    private static final Pattern CONSTANT = Pattern.compile("([A-Z_]+)=(\\d+)");

    public static void main(String[] args) throws IOException {
        Sentences document = new Sentences("What it is");
        document.test("is an optimiser for straight-line expressions over 8-bit words", WhatItIsTest::optimiser);
        document.test("add, subtract, multiply, and, or, xor, shifts, not and negate", WhatItIsTest::operations);
        document.test("over constants and four inputs", WhatItIsTest::leaves);
        document.test("An expression is held as a DAG whose nodes may be shared.", WhatItIsTest::sharedNodes);
        document.test("Rewrite rules are supplied at run time.", WhatItIsTest::atRunTime);
        document.test("A rule has a pattern tree with up to two variables", WhatItIsTest::twoVariables);
        document.test("at most one precondition", WhatItIsTest::onePrecondition);
        document.test("and a replacement tree whose constant-only parts are folded", WhatItIsTest::folded);
        document.test("A rule is accepted only if it is strictly cheaper than its pattern", WhatItIsTest::cheaper);
        document.test("and agrees with it on every 8-bit value of its variables for which the precondition holds",
            WhatItIsTest::right);
        document.test("For a wrong rule, the first failing assignment is reported.", WhatItIsTest::firstFailing);
        document.test("Accepted rules rewrite the DAG bottom-up until none applies.", WhatItIsTest::bottomUp);
        document.test("Counts, costs, per-rule uses, the shape of the result and the values it computes can then be queried",
            WhatItIsTest::queries);
        document.test("for the original only the cost and the output values can be queried", WhatItIsTest::original);
        document.opens("Public constants:");
        constants(document, 14, "Kinds: binary ADD=1, SUB=2, MUL=3, AND=4, OR=5, XOR=6, SHL=7, SHR=8;"
            + " unary NOT=9, NEG=10; leaves CONST=11, ARG=12, VAR=13, CVAR=14.");
        constants(document, 5, "Precondition relations on the value v of a CVAR: PRE_NONE=0 (always true),"
            + " PRE_EQ=1 (v == k), PRE_NE=2 (v != k), PRE_ULT=3 (v < k), PRE_UGE=4 (v >= k).");
        document.test("PRE_NONE=0 (always true), PRE_EQ=1 (v == k), PRE_NE=2 (v != k), PRE_ULT=3 (v < k), PRE_UGE=4 (v >= k)",
            WhatItIsTest::relations);
        constants(document, 7, "Verdicts of ruleCommit: OK=0, ERR_FULL=1, ERR_SHAPE=2, ERR_VARS=3, ERR_PRE=4, ERR_COST=5,"
            + " ERR_WRONG=6.");
        document.test("Verdicts of ruleCommit", WhatItIsTest::verdicts);
        constants(document, 9, "Selectors for stat: STAT_LIVE_NODES=0, STAT_LIVE_COST=1, STAT_ORIG_COST=2,"
            + " STAT_APPLICATIONS=3, STAT_RULES=4, STAT_COUNTEREXAMPLE=5, STAT_OUTPUTS=6, STAT_PHASE=7, STAT_NODES=8.");
        document.test("Selectors for stat", WhatItIsTest::selectors);
        document.finish();
    }

    private static int valueOf(String name) {
        try {
            return PeepholeRules.class.getField(name).getInt(null);
        } catch (ReflectiveOperationException missing) {
            return Integer.MIN_VALUE;
        }
    }

    private static void constants(Sentences document, int count, String list) {
        document.test(list, check -> {
            Matcher constant = CONSTANT.matcher(list);
            int found = 0;
            while (constant.find()) {
                check.due(constant.group(1), valueOf(constant.group(1)), Integer.parseInt(constant.group(2)));
                found++;
            }
            check.due("constants in the list", found, count);
        });
    }

    private static void optimiser(Check check) {
        PeepholeRules x = States.fresh();
        Texts.accept(x, "v0 v1 or v0 v1 and sub", "v0 v1 xor");
        int a = x.addNode(PeepholeRules.ARG, 0, 0);
        int b = x.addNode(PeepholeRules.ARG, 1, 0);
        x.addOutput(x.addNode(PeepholeRules.SUB, x.addNode(PeepholeRules.OR, a, b), x.addNode(PeepholeRules.AND, a, b)));
        check.due("applications", x.optimize(), 1);
        check.due("shape", Texts.shape(x, 0), "a0 a1 xor");
        for (int args = 0; args < 65536; args += 257 * 3 + 1) {
            check.due("value of " + args, x.eval(0, args, false), (args ^ args >> 8) & 255);
        }
    }

    private static int valueOfOperation(String operation, int a0, int a1) {
        PeepholeRules x = States.fresh();
        Texts.output(x, operation);
        return x.eval(0, a0 | a1 << 8, false);
    }

    private static void operations(Check check) {
        check.due("add", valueOfOperation("a0 a1 add", 200, 100), 44);
        check.due("subtract", valueOfOperation("a0 a1 sub", 100, 200), 156);
        check.due("multiply", valueOfOperation("a0 a1 mul", 100, 200), 32);
        check.due("and", valueOfOperation("a0 a1 and", 0xcc, 0xaa), 0x88);
        check.due("or", valueOfOperation("a0 a1 or", 0xcc, 0xaa), 0xee);
        check.due("xor", valueOfOperation("a0 a1 xor", 0xcc, 0xaa), 0x66);
        check.due("shift left", valueOfOperation("a0 a1 shl", 0x93, 2), 0x4c);
        check.due("shift right", valueOfOperation("a0 a1 shr", 0x93, 2), 0x24);
        check.due("not", valueOfOperation("a0 not", 100, 0), 155);
        check.due("negate", valueOfOperation("a0 neg", 100, 0), 156);
    }

    private static void leaves(Check check) {
        PeepholeRules x = States.fresh();
        Texts.output(x, "a0 a1 sub a2 add a3 xor 77 add");
        check.due("all four and a constant", x.eval(0, 0x0f281e64, false), ((100 - 30 + 40 ^ 15) + 77) % 256);
        check.due("no fifth input", x.addNode(PeepholeRules.ARG, 4, 0), -1);
    }

    private static void sharedNodes(Check check) {
        PeepholeRules x = States.fresh();
        int n = Texts.nodes(x, "a0 a1 mul");
        x.addOutput(x.addNode(PeepholeRules.ADD, n, n));
        x.addOutput(x.addNode(PeepholeRules.NOT, n, 0));
        check.due("live nodes", x.stat(PeepholeRules.STAT_LIVE_NODES), 5);
        check.due("cost", x.stat(PeepholeRules.STAT_LIVE_COST), 5);
        check.due("as both operands", Texts.shape(x, 0), "a0 a1 mul a0 a1 mul add");
        check.due("below another output", Texts.shape(x, 1), "a0 a1 mul not");
    }

    private static void atRunTime(Check check) {
        PeepholeRules x = States.fresh();
        Texts.output(x, "a0 0 add");
        check.due("none at the start", x.optimize(), 0);
        Texts.accept(x, "v0 0 add", "v0");
        check.due("one supplied later", x.optimize(), 1);
    }

    private static void twoVariables(Check check) {
        PeepholeRules x = States.fresh();
        check.due("none", Texts.commit(x, "1 2 add", "3"), PeepholeRules.OK);
        check.due("one", Texts.commit(x, "v0 0 add", "v0"), PeepholeRules.OK);
        check.due("two", Texts.commit(x, "v0 k1 add 0 add", "v0 v1 add"), PeepholeRules.OK);
        check.due("no third VAR", x.rulePat(PeepholeRules.VAR, 2), false);
        check.due("no third CVAR", x.rulePat(PeepholeRules.CVAR, 2), false);
    }

    private static void onePrecondition(Check check) {
        PeepholeRules x = States.fresh();
        x.rulePre(PeepholeRules.PRE_EQ, 1, 0);
        x.rulePre(PeepholeRules.PRE_NE, 0, 0);
        // The first alone would make the rule right; the second names a VAR.
        check.due("the second takes the first one's place", Texts.commit(x, "v0 k1 add", "v0"), PeepholeRules.ERR_PRE);
        check.due("none is needed", Texts.commit(x, "v0 0 add", "v0"), PeepholeRules.OK);
    }

    private static void folded(Check check) {
        PeepholeRules x = States.fresh();
        Texts.accept(x, "v0 k1 add 10 add", "v0 v1 10 add add");
        Texts.output(x, "a0 250 add 10 add");
        x.optimize();
        check.due("shape", Texts.shape(x, 0), "a0 4 add");
    }

    private static void cheaper(Check check) {
        check.due("cheaper", Texts.commit(States.fresh(), "v0 2 mul", "v0 v0 add"), PeepholeRules.OK);
        check.due("as dear", Texts.commit(States.fresh(), "v0 1 shl", "v0 v0 add"), PeepholeRules.ERR_COST);
        check.due("dearer", Texts.commit(States.fresh(), "v0 v0 add", "v0 2 mul"), PeepholeRules.ERR_COST);
    }

    private static void right(Check check) {
        check.due("on every value", Texts.commit(States.fresh(), "v0 v1 add v1 sub", "v0"), PeepholeRules.OK);
        check.due("on all but one", Texts.commit(States.fresh(), "1 v0 not shr", "0"), PeepholeRules.ERR_WRONG);
        int[] eight = Texts.pre(PeepholeRules.PRE_UGE, 1, 8);
        check.due("where the precondition holds", Texts.commitIf(States.fresh(), eight, "v0 k1 shl", "0"), PeepholeRules.OK);
        int[] seven = Texts.pre(PeepholeRules.PRE_UGE, 1, 7);
        check.due("not where it does not", Texts.commitIf(States.fresh(), seven, "v0 k1 shl", "0"), PeepholeRules.ERR_WRONG);
    }

    private static void firstFailing(Check check) {
        PeepholeRules x = States.fresh();
        Texts.commit(x, "v0 1 shl 1 shr", "v0");
        check.due("one variable", x.stat(PeepholeRules.STAT_COUNTEREXAMPLE), 128);
        Texts.commitIf(x, Texts.pre(PeepholeRules.PRE_UGE, 1, 7), "v0 k1 shl", "0");
        check.due("two variables", x.stat(PeepholeRules.STAT_COUNTEREXAMPLE), 1 + 256 * 7);
        Texts.commit(x, "v0 0 add", "v0");
        check.due("not for a right rule", x.stat(PeepholeRules.STAT_COUNTEREXAMPLE), -1);
    }

    private static void bottomUp(Check check) {
        PeepholeRules x = States.fresh();
        Texts.accept(x, "v0 0 add not", "v0 not");
        Texts.accept(x, "v0 0 add", "v0");
        Texts.output(x, "a0 0 add not 0 add 0 add");
        check.due("until none applies", x.optimize(), 3);
        check.due("shape", Texts.shape(x, 0), "a0 not");
        check.due("never from above", x.ruleUses(0), 0);
        check.due("none is left", x.optimize(), 0);
    }

    private static PeepholeRules thirds() {
        PeepholeRules x = States.fresh();
        Texts.accept(x, "v0 3 mul", "v0 1 shl v0 add");
        Texts.accept(x, "v0 v0 sub", "0");
        Texts.output(x, "a0 3 mul");
        Texts.output(x, "a1");
        x.optimize();
        return x;
    }

    private static void queries(Check check) {
        PeepholeRules x = thirds();
        check.due("live nodes", x.stat(PeepholeRules.STAT_LIVE_NODES), 5);
        check.due("nodes", x.stat(PeepholeRules.STAT_NODES), 5);
        check.due("outputs", x.stat(PeepholeRules.STAT_OUTPUTS), 2);
        check.due("rules", x.stat(PeepholeRules.STAT_RULES), 2);
        check.due("applications", x.stat(PeepholeRules.STAT_APPLICATIONS), 1);
        check.due("shifts", x.countOp(PeepholeRules.SHL), 1);
        check.due("cost", x.stat(PeepholeRules.STAT_LIVE_COST), 2);
        check.due("uses of rule 0", x.ruleUses(0), 1);
        check.due("uses of rule 1", x.ruleUses(1), 0);
        check.due("shape", Texts.shape(x, 0), "a0 1 shl a0 add");
        check.due("value", x.eval(0, 50, false), 150);
    }

    private static void original(Check check) {
        PeepholeRules x = thirds();
        check.due("its cost", x.stat(PeepholeRules.STAT_ORIG_COST), 3);
        check.due("its value 0", x.eval(0, 0x0732, true), 150);
        check.due("its value 1", x.eval(1, 0x0732, true), 7);
        check.due("not its kinds", x.countOp(PeepholeRules.MUL), 0);
        check.due("not its shape", x.nodeAt(0, 0, 0), PeepholeRules.ADD * 256);
    }

    private static int applied(int relation, int k, int v) {
        PeepholeRules x = States.fresh();
        Texts.acceptIf(x, Texts.pre(relation, 0, k), "k0 neg", "v0 neg");
        Texts.output(x, v + " neg");
        return x.optimize();
    }

    private static void relations(Check check) {
        for (int v = 99; v <= 101; v++) {
            check.due("always at " + v, applied(PeepholeRules.PRE_NONE, 100, v), 1);
            check.due(v + " == 100", applied(PeepholeRules.PRE_EQ, 100, v), v == 100 ? 1 : 0);
            check.due(v + " != 100", applied(PeepholeRules.PRE_NE, 100, v), v != 100 ? 1 : 0);
            check.due(v + " < 100", applied(PeepholeRules.PRE_ULT, 100, v), v < 100 ? 1 : 0);
            check.due(v + " >= 100", applied(PeepholeRules.PRE_UGE, 100, v), v >= 100 ? 1 : 0);
        }
        check.due("without a sign, 200 < 100", applied(PeepholeRules.PRE_ULT, 100, 200), 0);
        check.due("without a sign, 200 >= 100", applied(PeepholeRules.PRE_UGE, 100, 200), 1);
    }

    private static void verdicts(Check check) {
        PeepholeRules x = new PeepholeRules(8, 1);
        check.due("an empty draft", x.ruleCommit(), PeepholeRules.ERR_SHAPE);
        check.due("an unknown variable", Texts.commit(x, "v0 not not", "v1"), PeepholeRules.ERR_VARS);
        int[] ofVar = Texts.pre(PeepholeRules.PRE_EQ, 0, 0);
        check.due("a precondition of a VAR", Texts.commitIf(x, ofVar, "v0 not not", "v0"), PeepholeRules.ERR_PRE);
        check.due("too dear", Texts.commit(x, "v0 not", "v0 not"), PeepholeRules.ERR_COST);
        check.due("wrong", Texts.commit(x, "v0 not", "v0"), PeepholeRules.ERR_WRONG);
        check.due("right and cheaper", Texts.commit(x, "v0 not not", "v0"), PeepholeRules.OK);
        check.due("one too many", Texts.commit(x, "v0 neg neg", "v0"), PeepholeRules.ERR_FULL);
    }

    // No two selectors share an answer, but for the two counts of nodes.
    private static void selectors(Check check) {
        PeepholeRules x = new PeepholeRules(32, 16);
        for (int r = 0; r < 6; r++) {
            Texts.accept(x, "v0 not not", "v0");
        }
        Texts.commit(x, "v1 neg", "v1");
        Texts.output(x, "a0 not not not not not not a1 mul a2 mul");
        Texts.output(x, "a3 neg 5 add");
        Texts.nodes(x, "1 2 add");
        check.due("nodes added", x.stat(PeepholeRules.STAT_NODES), 18);
        check.due("BUILDING", x.stat(PeepholeRules.STAT_PHASE), 0);
        x.optimize();
        check.due("live nodes", x.stat(PeepholeRules.STAT_LIVE_NODES), 9);
        check.due("live cost", x.stat(PeepholeRules.STAT_LIVE_COST), 8);
        check.due("original cost", x.stat(PeepholeRules.STAT_ORIG_COST), 14);
        check.due("applications", x.stat(PeepholeRules.STAT_APPLICATIONS), 3);
        check.due("rules", x.stat(PeepholeRules.STAT_RULES), 6);
        check.due("counterexample", x.stat(PeepholeRules.STAT_COUNTEREXAMPLE), 256);
        check.due("outputs", x.stat(PeepholeRules.STAT_OUTPUTS), 2);
        check.due("OPTIMIZED", x.stat(PeepholeRules.STAT_PHASE), 1);
        check.due("nodes", x.stat(PeepholeRules.STAT_NODES), 9);
    }
}
