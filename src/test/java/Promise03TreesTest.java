import java.io.IOException;
import java.util.function.Consumer;

final class Promise03TreesTest {
    private static final int LOW = Integer.MIN_VALUE;
    private static final int HIGH = Integer.MAX_VALUE;
    private static final int[] ODD_VALUES = {LOW, -257, -256, -1, 0, 1, 2, 3, 127, 128, 254, 255, 256, 257, 511, 512, HIGH};

    public static void main(String[] args) throws IOException {
        Sentences document = new Sentences("Promise 3");
        document.test("`rulePat(kind, value)` appends one node", Promise03TreesTest::appendsToPattern);
        document.test("value is the constant for CONST and j for VAR and CVAR", Promise03TreesTest::valuesAreKept);
        document.test("it is ignored for the other kinds", Promise03TreesTest::valuesAreIgnored);
        document.test("The call is refused (answers false, changes nothing)", Promise03TreesTest::refusedPatChangesNothing);
        document.test("the pattern already has 8 nodes", check -> eightNodes(check, true));
        document.test("kind is not in 1..11, 13 or 14 (so ARG, 0, negatives and anything above 14 are refused)",
            Promise03TreesTest::patternKinds);
        document.test("kind is CONST and value is not in 0..255", check -> constants(check, true));
        document.test("kind is VAR or CVAR and value is not in 0..1", Promise03TreesTest::patternVariables);
        document.test("kind is binary and fewer than 2 subtrees are pending", check -> binaryNodes(check, true));
        document.test("kind is unary and none is pending", check -> unaryNodes(check, true));
        document.test("Otherwise it appends the node and answers true.", Promise03TreesTest::otherwiseTrue);
        document.test("`ruleRep(kind, value)` appends one node", Promise03TreesTest::appendsToReplacement);
        document.test("and follows the same rules", Promise03TreesTest::sameRules);
        document.test("the allowed kinds are 1..11 and 13: CVAR is refused there", Promise03TreesTest::replacementKinds);
        document.test("The replacement has its own limit of 8 nodes", Promise03TreesTest::ownLimits);
        document.test("and its own pending subtrees", Promise03TreesTest::ownPendingSubtrees);
        document.test("Neither call changes the other tree", Promise03TreesTest::otherTreeStays);
        document.test("the precondition, the rules, the counterexample or the DAG", Promise03TreesTest::nothingElseChanges);
        document.test("Neither judges whether the tree is finished", Promise03TreesTest::unfinishedTrees);
        document.test("or whether its variables fit", Promise03TreesTest::unfitVariables);
        document.finish();
    }

    private static boolean enter(PeepholeRules x, boolean toPattern, int kind, int value) {
        return toPattern ? x.rulePat(kind, value) : x.ruleRep(kind, value);
    }

    private static String side(boolean toPattern) {
        return toPattern ? "pattern" : "replacement";
    }

    private static PeepholeRules withLeaves(int count) {
        PeepholeRules x = States.fresh();
        for (int i = 0; i < count; i++) {
            x.rulePat(11, 1);
            x.ruleRep(11, 1);
        }
        return x;
    }

    private static void appendsToPattern(Check check) {
        check.due("a leaf", States.trees(() -> entered(true, 11)),
            "pattern: 7 leaves 0 binary nodes a unary node, replacement: 8 leaves 0 binary nodes no unary node");
        check.due("a unary node", States.trees(() -> entered(true, 11, 9)),
            "pattern: 6 leaves 0 binary nodes a unary node, replacement: 8 leaves 0 binary nodes no unary node");
        check.due("a binary node", States.trees(() -> entered(true, 11, 11, 1)),
            "pattern: 5 leaves 0 binary nodes a unary node, replacement: 8 leaves 0 binary nodes no unary node");
    }

    private static void appendsToReplacement(Check check) {
        check.due("a leaf", States.trees(() -> entered(false, 11)),
            "pattern: 8 leaves 0 binary nodes no unary node, replacement: 7 leaves 0 binary nodes a unary node");
        check.due("a unary node", States.trees(() -> entered(false, 11, 9)),
            "pattern: 8 leaves 0 binary nodes no unary node, replacement: 6 leaves 0 binary nodes a unary node");
        check.due("a binary node", States.trees(() -> entered(false, 11, 11, 1)),
            "pattern: 8 leaves 0 binary nodes no unary node, replacement: 5 leaves 0 binary nodes a unary node");
    }

    private static PeepholeRules entered(boolean toPattern, int... kinds) {
        PeepholeRules x = States.fresh();
        for (int kind : kinds) {
            enter(x, toPattern, kind, 0);
        }
        return x;
    }

    private static void valuesAreKept(Check check) {
        for (int c : new int[] {0, 1, 127, 128, 254, 255}) {
            PeepholeRules x = States.fresh();
            check.due("pattern CONST " + c, Texts.commit(x, c + " not not", "" + c), 0);
            check.due("replacement CONST " + (c + 1) % 256, Texts.commit(x, c + " not not", "" + (c + 1) % 256), 6);
            Texts.output(x, c + " not not");
            Texts.output(x, (c + 1) % 256 + " not not");
            check.due("matches CONST " + c + " alone", x.optimize(), 1);
            check.due("builds CONST " + c, x.nodeAt(0, 0, 0), 11 * 256 + c);
        }
        PeepholeRules y = States.fresh();
        check.due("VAR 0 and VAR 1", Texts.commit(y, "v0 v1 sub not not", "v0 v1 sub"), 0);
        check.due("VAR 1 and VAR 0", Texts.commit(y, "v0 v1 sub not not", "v1 v0 sub"), 6);
        check.due("CVAR 0 and CVAR 1", Texts.commit(y, "k0 k1 sub", "v0 v1 sub"), 0);
        check.due("CVAR 1 and CVAR 0", Texts.commit(y, "k0 k1 sub", "v1 v0 sub"), 6);
    }

    private static void valuesAreIgnored(Check check) {
        for (int value : ODD_VALUES) {
            for (int kind = 1; kind <= 10; kind++) {
                check.due("pattern " + kind + " with " + value, withLeaves(2).rulePat(kind, value), true);
                check.due("replacement " + kind + " with " + value, withLeaves(2).ruleRep(kind, value), true);
            }
            PeepholeRules x = States.fresh();
            x.rulePat(13, 0);
            x.rulePat(9, value);
            x.rulePat(9, value);
            x.rulePat(10, value);
            x.ruleRep(13, 0);
            x.ruleRep(10, value);
            check.due(value + " names no variable", x.ruleCommit(), 0);
            Texts.output(x, "a1 not not neg");
            check.due("the rule of " + value + " acts", x.optimize(), 1);
            check.due("and builds NEG", Texts.shape(x, 0), "a1 neg");
        }
    }

    private static void refusedPatChangesNothing(Check check) {
        States.dueUnchangedInAll(check, "kind", x -> {
            x.rulePat(12, 0);
            x.rulePat(0, 0);
            x.rulePat(-1, 0);
            x.rulePat(15, 0);
        });
        States.dueUnchangedInAll(check, "value", x -> {
            x.rulePat(11, 256);
            x.rulePat(11, -1);
            x.rulePat(13, 2);
            x.rulePat(13, -1);
            x.rulePat(14, 2);
            x.rulePat(14, -1);
        });
        States.dueUnchanged(check, "no subtree", States::built, x -> {
            x.rulePat(1, 0);
            x.rulePat(9, 0);
        });
        States.dueUnchanged(check, "one subtree", () -> withLeaves(1), x -> x.rulePat(8, 0));
        States.dueUnchanged(check, "eight nodes", () -> States.fullDraft(States.built()), Promise03TreesTest::patternAtAll);
        States.dueUnchanged(check, "eight leaves", () -> withLeaves(8), Promise03TreesTest::patternAtAll);
        dueOnlyGoodTaken(check, true);
        dueOnlyGoodTaken(check, false);
    }

    private static void patternAtAll(PeepholeRules x) {
        for (int kind = 1; kind <= 14; kind++) {
            x.rulePat(kind, 0);
        }
    }

    // Every refused call between the nodes of v0 not not -> v0 not leaves that rule as it is.
    private static void dueOnlyGoodTaken(Check check, boolean toPattern) {
        PeepholeRules x = States.fresh();
        Consumer<PeepholeRules> refused = y -> {
            for (int[] call : new int[][] {{1, 0}, {8, 0}, {12, 0}, {0, 0}, {15, 0}, {-9, 0}, {11, 256}, {11, -1}, {13, 2}, {13, -1}}) {
                check.due("refused " + call[0] + " " + call[1], enter(y, toPattern, call[0], call[1]), false);
            }
        };
        refused.accept(x);
        x.rulePat(13, 1);
        x.ruleRep(13, 1);
        refused.accept(x);
        x.rulePat(9, 0);
        x.rulePat(9, 0);
        x.rulePat(9, 0);
        x.ruleRep(9, 0);
        refused.accept(x);
        check.due("the rule", x.ruleCommit(), 0);
        Texts.output(x, "a2 not not not");
        check.due("it acts", x.optimize(), 1);
        check.due("its shape", Texts.shape(x, 0), "a2 not");
    }

    private static void eightNodes(Check check, boolean toPattern) {
        for (int kind = 1; kind <= 14; kind++) {
            PeepholeRules x = States.fresh();
            for (int i = 0; i < 8; i++) {
                check.due(side(toPattern) + " leaf " + i, enter(x, toPattern, 11, i), true);
            }
            check.due("ninth node of kind " + kind, enter(x, toPattern, kind, 0), false);
            check.due("and again", enter(x, toPattern, kind, 0), false);
        }
        PeepholeRules y = States.fresh();
        enter(y, toPattern, 13, 0);
        for (int i = 1; i < 8; i++) {
            check.due(side(toPattern) + " unary node " + i, enter(y, toPattern, 9, 0), true);
        }
        check.due("ninth unary node", enter(y, toPattern, 9, 0), false);
        PeepholeRules z = States.fresh();
        enter(z, toPattern, 11, 0);
        for (int i = 0; i < 3; i++) {
            enter(z, toPattern, 11, 0);
            check.due(side(toPattern) + " binary node " + i, enter(z, toPattern, 1, 0), true);
        }
        check.due("eighth node", enter(z, toPattern, 10, 0), true);
        check.due("ninth node", enter(z, toPattern, 10, 0), false);
        PeepholeRules w = States.fresh();
        check.due("two trees of 8 nodes are a rule", States.fullDraft(w).ruleCommit(), 0);
        Texts.output(w, "a0 not not not not not not not");
        check.due("it acts", w.optimize(), 1);
        check.due("all 8 nodes are built", Texts.shape(w, 0), "a0 1 sub 1 add not");
    }

    private static void patternKinds(Check check) {
        for (int kind = -300; kind <= 300; kind++) {
            boolean want = kind >= 1 && kind <= 11 || kind == 13 || kind == 14;
            check.due("kind " + kind, withLeaves(2).rulePat(kind, 0), want);
        }
        for (int kind : new int[] {LOW, LOW + 1, LOW + 11, 65536 + 11, HIGH - 1, HIGH}) {
            check.due("kind " + kind, withLeaves(2).rulePat(kind, 0), false);
        }
        for (int value : ODD_VALUES) {
            check.due("ARG " + value, withLeaves(2).rulePat(12, value), false);
        }
    }

    private static void replacementKinds(Check check) {
        for (int kind = -300; kind <= 300; kind++) {
            boolean want = kind >= 1 && kind <= 11 || kind == 13;
            check.due("kind " + kind, withLeaves(2).ruleRep(kind, 0), want);
        }
        for (int kind : new int[] {LOW, LOW + 1, LOW + 11, 65536 + 11, HIGH - 1, HIGH}) {
            check.due("kind " + kind, withLeaves(2).ruleRep(kind, 0), false);
        }
        for (int value : ODD_VALUES) {
            check.due("CVAR " + value, withLeaves(2).ruleRep(14, value), false);
            check.due("ARG " + value, withLeaves(2).ruleRep(12, value), false);
        }
        PeepholeRules x = States.fresh();
        x.rulePat(14, 0);
        check.due("also if CVAR 0 is in the pattern", x.ruleRep(14, 0), false);
        States.dueUnchangedInAll(check, "a refused CVAR", y -> y.ruleRep(14, 1));
    }

    private static void constants(Check check, boolean toPattern) {
        for (int value : ODD_VALUES) {
            boolean want = value >= 0 && value <= 255;
            check.due(side(toPattern) + " CONST " + value, enter(States.fresh(), toPattern, 11, value), want);
        }
    }

    private static void patternVariables(Check check) {
        for (int value : ODD_VALUES) {
            boolean want = value == 0 || value == 1;
            check.due("VAR " + value, States.fresh().rulePat(13, value), want);
            check.due("CVAR " + value, States.fresh().rulePat(14, value), want);
        }
    }

    private static void binaryNodes(Check check, boolean toPattern) {
        for (int kind = 1; kind <= 8; kind++) {
            check.due(kind + " with none pending", enter(States.fresh(), toPattern, kind, 0), false);
            check.due(kind + " with one pending", enter(withLeaves(1), toPattern, kind, 0), false);
            check.due(kind + " with two pending", enter(withLeaves(2), toPattern, kind, 0), true);
            check.due(kind + " with three pending", enter(withLeaves(3), toPattern, kind, 0), true);
            PeepholeRules x = withLeaves(3);
            enter(x, toPattern, kind, 0);
            check.due(kind + " leaves two of three", enter(x, toPattern, kind, 0), true);
            check.due(kind + " leaves one of two", enter(x, toPattern, kind, 0), false);
        }
        PeepholeRules x = withLeaves(1);
        enter(x, toPattern, 9, 0);
        check.due("a unary node makes no second subtree", enter(x, toPattern, 1, 0), false);
    }

    private static void unaryNodes(Check check, boolean toPattern) {
        for (int kind = 9; kind <= 10; kind++) {
            check.due(kind + " with none pending", enter(States.fresh(), toPattern, kind, 0), false);
            check.due(kind + " with one pending", enter(withLeaves(1), toPattern, kind, 0), true);
            check.due(kind + " with two pending", enter(withLeaves(2), toPattern, kind, 0), true);
            PeepholeRules x = withLeaves(1);
            enter(x, toPattern, kind, 0);
            check.due(kind + " leaves one pending", enter(x, toPattern, kind, 0), true);
        }
    }

    private static void otherwiseTrue(Check check) {
        for (int kind = 1; kind <= 14; kind++) {
            if (kind != 12) {
                check.due("kind " + kind + " as the eighth node", withLeaves(7).rulePat(kind, 1), true);
                check.due("kind " + kind + " as the third", withLeaves(2).rulePat(kind, 0), true);
            }
        }
        check.due("in the OPTIMIZED phase", States.optimized().rulePat(13, 0), true);
        check.due("behind a full list of rules", States.full().rulePat(13, 0), true);
        check.due("the last constant", States.fresh().rulePat(11, 255), true);
    }

    private static void sameRules(Check check) {
        eightNodes(check, false);
        constants(check, false);
        binaryNodes(check, false);
        unaryNodes(check, false);
        for (int value : ODD_VALUES) {
            check.due("VAR " + value, States.fresh().ruleRep(13, value), value == 0 || value == 1);
        }
        States.dueUnchangedInAll(check, "refused", x -> {
            x.ruleRep(12, 0);
            x.ruleRep(0, 0);
            x.ruleRep(11, 256);
            x.ruleRep(11, -1);
            x.ruleRep(13, 2);
            x.ruleRep(13, -1);
        });
        States.dueUnchanged(check, "one subtree", () -> withLeaves(1), x -> x.ruleRep(8, 0));
        States.dueUnchanged(check, "no subtree", States::built, x -> x.ruleRep(10, 0));
        States.dueUnchanged(check, "eight leaves", () -> withLeaves(8), x -> x.ruleRep(1, 0));
        check.due("in the OPTIMIZED phase", States.optimized().ruleRep(13, 0), true);
        check.due("behind a full list of rules", States.full().ruleRep(13, 0), true);
    }

    private static void ownLimits(Check check) {
        PeepholeRules x = States.fresh();
        for (int i = 0; i < 8; i++) {
            x.rulePat(11, 0);
        }
        for (int i = 0; i < 8; i++) {
            check.due("replacement node " + i + " beside a full pattern", x.ruleRep(11, 0), true);
        }
        check.due("ninth replacement node", x.ruleRep(11, 0), false);
        PeepholeRules y = States.fresh();
        for (int i = 0; i < 8; i++) {
            y.ruleRep(11, 0);
        }
        for (int i = 0; i < 8; i++) {
            check.due("pattern node " + i + " beside a full replacement", y.rulePat(11, 0), true);
        }
        check.due("ninth pattern node", y.rulePat(11, 0), false);
    }

    private static void ownPendingSubtrees(Check check) {
        PeepholeRules x = States.fresh();
        x.rulePat(13, 0);
        x.rulePat(13, 1);
        check.due("the pattern's are none of the replacement, unary", x.ruleRep(9, 0), false);
        check.due("the pattern's are none of the replacement, binary", x.ruleRep(1, 0), false);
        x.ruleRep(13, 0);
        check.due("one of each are not two", x.ruleRep(1, 0), false);
        PeepholeRules y = States.fresh();
        y.ruleRep(13, 0);
        y.ruleRep(13, 1);
        check.due("the replacement's are none of the pattern, unary", y.rulePat(9, 0), false);
        check.due("the replacement's are none of the pattern, binary", y.rulePat(1, 0), false);
        y.rulePat(13, 0);
        check.due("one of each are not two here either", y.rulePat(1, 0), false);
    }

    private static void otherTreeStays(Check check) {
        PeepholeRules x = States.fresh();
        x.ruleRep(13, 0);
        x.rulePat(13, 0);
        x.rulePat(13, 1);
        x.ruleRep(13, 1);
        x.ruleRep(2, 0);
        x.rulePat(2, 0);
        x.ruleRep(9, 0);
        x.rulePat(9, 0);
        x.rulePat(9, 0);
        x.rulePat(9, 0);
        check.due("entered in turns", x.ruleCommit(), 0);
        Texts.output(x, "a0 a1 sub not not not");
        x.optimize();
        check.due("as if entered one after the other", Texts.shape(x, 0), "a0 a1 sub not");
        PeepholeRules y = States.fresh();
        Texts.pattern(y, "v0 not not");
        for (int i = 0; i < 9; i++) {
            y.ruleRep(11, i);
        }
        check.due("the replacement is not finished", y.ruleCommit(), 2);
    }

    private static void nothingElseChanges(Check check) {
        for (boolean toPattern : new boolean[] {true, false}) {
            States.all().forEach((name, made) -> {
                PeepholeRules x = made.get();
                String before = Texts.state(x);
                for (int kind : new int[] {13, 11, 1, 9, 14, 12, 0}) {
                    enter(x, toPattern, kind, 1);
                }
                check.due(name + ", state", Texts.state(x), before);
            });
        }
        PeepholeRules y = States.fresh();
        y.rulePre(1, 0, 9);
        check.due("the precondition stays", Texts.commit(y, "v1 k0 add", "v1"), 6);
        check.due("it is v0 == 9", y.stat(5), 9);
        PeepholeRules z = States.built();
        Texts.pattern(z, "v0 neg neg");
        Texts.replacement(z, "7");
        check.due("the rules act as before", z.optimize(), 2);
    }

    private static void unfinishedTrees(Check check) {
        PeepholeRules x = States.fresh();
        check.due("two leaves", x.rulePat(13, 0) && x.rulePat(13, 0), true);
        check.due("two leaves in the replacement", x.ruleRep(13, 0) && x.ruleRep(13, 0), true);
        check.due("judged by ruleCommit", x.ruleCommit(), 2);
        for (int i = 0; i < 8; i++) {
            check.due("leaf " + i + " that can't be joined any more", x.rulePat(11, i), true);
        }
        check.due("judged by ruleCommit too", x.ruleCommit(), 2);
    }

    private static void unfitVariables(Check check) {
        PeepholeRules x = States.fresh();
        check.due("VAR and CVAR of one j", x.rulePat(13, 0) && x.rulePat(14, 0) && x.rulePat(1, 0), true);
        check.due("and a replacement", x.ruleRep(13, 0), true);
        check.due("judged by ruleCommit", x.ruleCommit(), 3);
        check.due("a variable that no pattern has", x.ruleRep(13, 1), true);
        Texts.pattern(x, "v0 not");
        check.due("judged by ruleCommit too", x.ruleCommit(), 3);
    }
}
