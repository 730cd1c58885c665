import java.io.IOException;

final class TermsApplyingTest {
    public static void main(String[] args) throws IOException {
        Sentences document = new Sentences("Applying");
        document.test("each binary or unary node that is not constant-valued becomes a new node", TermsApplyingTest::newNodes);
        document.test("a VAR leaf that is not constant-valued is its binding", TermsApplyingTest::varLeaf);
        document.test("a maximal constant-valued subtree that is a single VAR leaf is its binding", TermsApplyingTest::constantVarLeaf);
        document.test("any other maximal constant-valued subtree becomes one new CONST node holding its value",
            TermsApplyingTest::folded);
        document.opens("Let N be what the root becomes.");
        document.test("Every operand slot and output entry that refers to R then refers to N.", TermsApplyingTest::redirected);
        document.test("After that, all nodes that are not live are deleted.", TermsApplyingTest::deleted);
        document.test("This counts as one application of r.", TermsApplyingTest::counted);
        document.finish();
    }

    private static PeepholeRules with(String pattern, String replacement) {
        PeepholeRules x = new PeepholeRules(32, 16);
        Texts.accept(x, pattern, replacement);
        return x;
    }

    private static void newNodes(Check check) {
        PeepholeRules x = with("v0 v1 sub not not", "v0 v1 sub");
        int difference = Texts.nodes(x, "a0 a1 sub");
        x.addOutput(x.addNode(9, x.addNode(9, difference, 0), 0));
        check.due("applications", x.optimize(), 1);
        check.due("shape", Texts.shape(x, 0), "a0 a1 sub");
        check.due("live", x.stat(0), 3);
        // An equal node that is there already is not taken for the new one.
        PeepholeRules y = with("v0 2 mul", "v0 v0 add");
        int a = y.addNode(12, 0, 0);
        y.addOutput(y.addNode(1, a, a));
        y.addOutput(y.addNode(3, a, y.addNode(11, 2, 0)));
        y.optimize();
        check.due("two equal sums", y.countOp(1), 2);
        PeepholeRules all = with("v0 not not not not not not not", "v0 1 0 add sub 1 add not");
        Texts.output(all, "a0 not not not not not not not");
        all.optimize();
        check.due("the largest replacement", Texts.shape(all, 0), "a0 1 sub 1 add not");
        for (int dead = 0; dead < 32; dead++) {
            lastFreeNode(check, dead);
        }
    }

    // With 31 of 32 nodes live, the one new node takes the place of the dead one, whichever that is.
    private static void lastFreeNode(Check check, int dead) {
        PeepholeRules x = with("k0 k1 add", "v0 v1 add");
        int[] live = new int[31];
        for (int i = 0; i < 31; i++) {
            if (x.stat(8) == dead) {
                x.addNode(12, 3, 0);
            }
            live[i] = i < 2 ? x.addNode(11, 30 - 18 * i, 0) : x.addNode(i == 2 ? 1 : 9, live[i == 2 ? 0 : i - 1], live[1]);
        }
        x.addOutput(live[30]);
        x.addOutput(live[0]);
        x.addOutput(live[1]);
        check.due("place " + dead + ", applications", x.optimize(), 1);
        int[] values = {42, 30, 12};
        for (int k = 0; k < 3; k++) {
            check.due("place " + dead + ", value of " + k, x.eval(k, 0, false), values[k]);
            check.due("place " + dead + ", original value of " + k, x.eval(k, 0, true), values[k]);
        }
        check.due("place " + dead + ", live nodes", x.stat(0), 31);
        check.due("place " + dead + ", original cost", x.stat(2), 29);
    }

    private static void varLeaf(Check check) {
        PeepholeRules x = with("v0 2 mul", "v0 v0 add");
        Texts.output(x, "a0 not 2 mul");
        x.optimize();
        check.due("shape", Texts.shape(x, 0), "a0 not a0 not add");
        check.due("its binding is no copy", x.stat(0), 3);
        check.due("nor is its cost", x.stat(1), 2);
        PeepholeRules y = with("v0 0 or", "v0");
        int c = Texts.nodes(y, "9");
        y.addOutput(y.addNode(5, c, y.addNode(11, 0, 0)));
        y.addOutput(c);
        y.optimize();
        check.due("a root that is a constant's VAR", y.stat(0), 1);
    }

    private static void constantVarLeaf(Check check) {
        PeepholeRules x = with("v0 k1 add k1 add 0 or", "v0 v1 add v1 add");
        int c = x.addNode(11, 6, 0);
        int sum = x.addNode(1, x.addNode(1, x.addNode(12, 0, 0), c), c);
        x.addOutput(x.addNode(5, sum, x.addNode(11, 0, 0)));
        check.due("applications", x.optimize(), 1);
        check.due("the one constant is there twice", x.countOp(11), 1);
        check.due("live", x.stat(0), 4);
        PeepholeRules y = with("k0 1 add 1 sub", "v0");
        int seven = y.addNode(11, 7, 0);
        int one = y.addNode(11, 1, 0);
        y.addOutput(y.addNode(2, y.addNode(1, seven, one), one));
        y.addOutput(seven);
        y.optimize();
        check.due("as the root", y.stat(0), 1);
        check.due("its value", Texts.shape(y, 0), "7");
    }

    private static void dueFolded(Check check, String pattern, String replacement, String before, String after, int live) {
        PeepholeRules x = with(pattern, replacement);
        Texts.output(x, before);
        check.due(before + ", applications", x.optimize(), 1);
        check.due(before + ", shape", Texts.shape(x, 0), after);
        check.due(before + ", live nodes", x.stat(0), live);
    }

    private static void folded(Check check) {
        dueFolded(check, "v0 k1 add 1 add", "v0 v1 1 add add", "a0 255 add 1 add", "a0 0 add", 3);
        dueFolded(check, "k0 v1 add 1 add", "v0 1 add v1 add", "9 a0 add 1 add", "10 a0 add", 3);
        dueFolded(check, "k0 k1 mul 1 add", "v0 v1 mul 1 add", "16 17 mul 1 add", "17", 1);
        dueFolded(check, "k0 not 0 add", "v0 not", "7 not 0 add", "248", 1);
        dueFolded(check, "v0 0 and", "0", "a0 0 and", "0", 1);
        dueFolded(check, "v0 8 mul", "v0 1 2 add shl", "a0 8 mul", "a0 3 shl", 3);
        dueFolded(check, "v0 k1 add 2 add", "v0 v1 1 add 1 add add", "a0 7 add 2 add", "a0 9 add", 3);
        innerConstantsTakeNoRoom(check);
        // Equal constants in two places are two nodes.
        dueFolded(check, "v0 3 add 3 add 0 or", "v0 3 add 3 add", "a0 3 add 3 add 0 or", "a0 3 add 3 add", 5);
    }

    private static void innerConstantsTakeNoRoom(Check check) {
        PeepholeRules x = with("v0 k1 add 2 add", "v0 v1 1 add 1 add add");
        x.addOutput(Texts.chain(x, 9, Texts.nodes(x, "a0 7 add 2 add"), 29));
        check.due("room for a VAR, a constant and a sum", x.optimize(), 1);
        check.due("the sum and its operands", x.stat(0), 27);
        check.due("its value", x.eval(0, 1, false), 10);
    }

    private static void redirected(Check check) {
        PeepholeRules x = with("v0 0 add", "v0");
        int root = Texts.nodes(x, "a1 0 add");
        int twice = x.addNode(3, root, root);
        x.addOutput(root);
        x.addOutput(x.addNode(9, root, 0));
        x.addOutput(twice);
        x.addOutput(root);
        check.due("applications", x.optimize(), 1);
        check.due("the first output", Texts.shape(x, 0), "a1");
        check.due("a unary node's slot", Texts.shape(x, 1), "a1 not");
        check.due("both slots of a binary node", Texts.shape(x, 2), "a1 a1 mul");
        check.due("the last output", Texts.shape(x, 3), "a1");
        check.due("live", x.stat(0), 3);
        PeepholeRules y = with("v0 v1 sub not not", "v0 v1 sub");
        int n = Texts.nodes(y, "a0 a1 sub not not");
        y.addOutput(y.addNode(1, n, n));
        y.addOutput(n);
        y.optimize();
        check.due("a new node is shared", y.countOp(2), 1);
        check.due("shape", Texts.shape(y, 0), "a0 a1 sub a0 a1 sub add");
    }

    private static void deleted(Check check) {
        PeepholeRules x = with("v0 0 and", "0");
        Texts.output(x, "a0 a1 mul not 0 and");
        check.due("before", x.stat(8), 6);
        x.optimize();
        check.due("one node is left", x.stat(8), 1);
        check.due("no MUL", x.countOp(3), 0);
        check.due("cost", x.stat(1), 0);
        PeepholeRules y = with("v0 0 and", "0");
        int kept = Texts.nodes(y, "a0 not");
        y.addOutput(y.addNode(4, kept, y.addNode(11, 0, 0)));
        y.addOutput(kept);
        y.optimize();
        check.due("what is used elsewhere stays", y.stat(8), 3);
        // Beside the 28 nodes there would be no room for 9 new ones, if none were deleted.
        PeepholeRules z = with("v0 neg neg not", "v0 not");
        int n = z.addNode(12, 0, 0);
        for (int i = 0; i < 9; i++) {
            n = z.addNode(9, z.addNode(10, z.addNode(10, n, 0), 0), 0);
        }
        z.addOutput(n);
        check.due("each application makes room", z.optimize(), 9);
    }

    private static void counted(Check check) {
        PeepholeRules x = with("v0 neg neg not", "v0 not");
        Texts.accept(x, "v0 not not not not not not", "v0");
        Texts.output(x, "a0 not not not not not not");
        check.due("answer", x.optimize(), 1);
        check.due("count", x.stat(3), 1);
        check.due("uses of the other rule", x.ruleUses(0), 0);
        check.due("uses of the rule", x.ruleUses(1), 1);
    }
}
