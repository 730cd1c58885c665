import java.io.IOException;

final class TermsRuleTreesTest {
    public static void main(String[] args) throws IOException {
        Sentences document = new Sentences("Rule trees");
        document.test("Pattern and replacement are each entered node by node in postfix order.", TermsRuleTreesTest::postfix);
        document.test("A leaf adds one pending subtree.", TermsRuleTreesTest::leaves);
        document.test("A unary node takes the newest pending subtree as operand A.", TermsRuleTreesTest::unaryNodes);
        document.test("A binary node takes the two newest: the older one is operand A, the newer one is B.",
            TermsRuleTreesTest::binaryNodes);
        document.test("The node entered last is the root.", TermsRuleTreesTest::root);
        document.test("Variable j is a VAR of the rule if VAR j occurs in the pattern", TermsRuleTreesTest::varOfTheRule);
        document.test("and a CVAR of the rule if CVAR j occurs in the pattern", TermsRuleTreesTest::cvarOfTheRule);
        document.test("Its values always range over 0..255.", TermsRuleTreesTest::range);
        document.test("Constant-valued replacement nodes are: a CONST leaf", TermsRuleTreesTest::constLeaf);
        document.test("a VAR j where j is a CVAR of the rule", TermsRuleTreesTest::varOfCvar);
        document.test("a binary or unary node whose operands are all constant-valued", TermsRuleTreesTest::constantOperands);
        document.test("A maximal constant-valued subtree is a constant-valued node that is either the root",
            TermsRuleTreesTest::maximalRoot);
        document.test("or an operand of a node that is not constant-valued", TermsRuleTreesTest::maximalOperand);
        document.test("Pattern weight is the sum of the weights of all pattern nodes.", TermsRuleTreesTest::patternWeight);
        document.test("Replacement weight is the sum of the weights of the replacement nodes that are not constant-valued.",
            TermsRuleTreesTest::replacementWeight);
        document.finish();
    }

    private static int verdict(String pattern, String replacement) {
        return Texts.commit(States.fresh(), pattern, replacement);
    }

    private static void dueRewritten(Check check, String pattern, String replacement, String before, String after) {
        PeepholeRules x = States.fresh();
        Texts.accept(x, pattern, replacement);
        Texts.output(x, before);
        x.optimize();
        check.due(before + " by " + pattern + " -> " + replacement, Texts.shape(x, 0), after);
    }

    private static void postfix(Check check) {
        dueRewritten(check, "v0 not v1 neg xor 0 or", "v0 not v1 neg xor", "a0 not a1 neg xor 0 or", "a0 not a1 neg xor");
        dueRewritten(check, "v0 v1 sub 0 add", "v0 v1 sub", "a0 a1 sub 0 add", "a0 a1 sub");
        dueRewritten(check, "0 v0 v1 sub add", "v0 v1 sub", "0 a0 a1 sub add", "a0 a1 sub");
        check.due("no operation can come first", States.fresh().rulePat(1, 0), false);
    }

    private static void leaves(Check check) {
        for (int kind : new int[] {11, 13, 14}) {
            for (int count = 1; count <= 4; count++) {
                PeepholeRules x = States.fresh();
                for (int i = 0; i < count; i++) {
                    x.rulePat(kind, 0);
                    x.ruleRep(kind == 14 ? 13 : kind, 0);
                }
                for (int i = 1; i < count; i++) {
                    check.due("kind " + kind + ", pattern subtree " + i + " of " + count, x.rulePat(1, 0), true);
                    check.due("kind " + kind + ", replacement subtree " + i + " of " + count, x.ruleRep(1, 0), true);
                }
                check.due("kind " + kind + ", no more pattern subtrees than " + count, x.rulePat(1, 0), false);
                check.due("kind " + kind + ", no more replacement subtrees than " + count, x.ruleRep(1, 0), false);
            }
        }
    }

    private static void unaryNodes(Check check) {
        check.due("the newest is negated", verdict("v0 v1 neg add", "v0 v1 sub"), 0);
        check.due("the older one is not", verdict("v0 v1 neg add", "v1 v0 sub"), 6);
        check.due("in the replacement too", verdict("v0 v1 not not neg not sub", "v0 v1 neg not sub"), 0);
        dueRewritten(check, "v0 v1 neg add", "v0 v1 sub", "a0 a1 neg add", "a0 a1 sub");
        dueRewritten(check, "v0 v1 neg add", "v0 v1 sub", "a0 neg a1 add", "a0 neg a1 add");
        check.due("it takes one and adds one", States.trees(() -> {
            PeepholeRules x = States.fresh();
            Texts.pattern(x, "v0 v1 not");
            Texts.replacement(x, "v0 v1 not");
            return x;
        }), "pattern: 5 leaves 1 binary nodes a unary node, replacement: 5 leaves 1 binary nodes a unary node");
    }

    private static void binaryNodes(Check check) {
        check.due("v0 - v1", verdict("v0 v1 sub 0 add", "v0 v1 sub"), 0);
        check.due("v1 - v0", verdict("v0 v1 sub 0 add", "v1 v0 sub"), 6);
        check.due("1 << v0", verdict("1 v0 shl 0 or", "1 v0 shl"), 0);
        check.due("v0 << 1", verdict("1 v0 shl 0 or", "v0 1 shl"), 6);
        dueRewritten(check, "v0 v1 sub not not", "v0 v1 sub", "a2 a3 sub not not", "a2 a3 sub");
        dueRewritten(check, "v0 v1 3 sub add 0 add", "v0 v1 3 sub add", "a0 a1 3 sub add 0 add", "a0 a1 3 sub add");
        dueRewritten(check, "v0 v1 3 sub add 0 add", "v0 v1 3 sub add", "a0 a1 sub 3 add 0 add", "a0 a1 sub 3 add 0 add");
        check.due("it takes two and adds one", States.trees(() -> {
            PeepholeRules x = States.fresh();
            Texts.pattern(x, "v0 v1 3 sub");
            Texts.replacement(x, "v0 v1 3 sub");
            return x;
        }), "pattern: 4 leaves 1 binary nodes a unary node, replacement: 4 leaves 1 binary nodes a unary node");
    }

    private static void root(Check check) {
        dueRewritten(check, "v0 not neg", "v0 1 add", "a0 not neg", "a0 1 add");
        dueRewritten(check, "v0 not neg", "v0 1 add", "a0 neg not", "a0 neg not");
        dueRewritten(check, "v0 not neg 0 or", "v0 not neg", "a0 not neg 0 or", "a0 not neg");
        check.due("a leaf entered last leaves two", verdict("v0 not v0", "v0"), 2);
    }

    private static void varOfTheRule(Check check) {
        dueRewritten(check, "v1 0 or", "v1", "a0 not 0 or", "a0 not");
        dueRewritten(check, "0 v0 not not not not not add", "v0 not", "0 a2 not not not not not add", "a2 not");
        check.due("such a VAR is not folded", verdict("v0 v1 add", "v0 v1 add"), 5);
        check.due("in the replacement alone it is none", verdict("1 not", "v0"), 3);
    }

    private static void cvarOfTheRule(Check check) {
        dueRewritten(check, "k1 0 or", "v1", "a0 0 or", "a0 0 or");
        dueRewritten(check, "k1 0 or", "v1", "9 0 or", "9");
        check.due("its VAR is folded", verdict("k0 k1 add", "v0 v1 add"), 0);
        check.due("beside a VAR it is not", verdict("k0 v1 add", "v0 v1 add"), 5);
        check.due("a precondition may name it", Texts.commitIf(States.fresh(), Texts.pre(1, 1, 0), "v0 k1 add", "v0"), 0);
    }

    private static void dueFirstWrong(Check check, int want, String pattern, String replacement) {
        PeepholeRules x = States.fresh();
        check.due(pattern + " -> " + replacement, Texts.commit(x, pattern, replacement), 6);
        check.due("counterexample of " + pattern + " -> " + replacement, x.stat(5), want);
    }

    private static void range(Check check) {
        for (String leaf : new String[] {"v0", "k0", "v1", "k1"}) {
            int step = leaf.endsWith("1") ? 256 : 1;
            String variable = leaf.replace('k', 'v');
            // Wrong at 0 alone, and at 255 alone.
            dueFirstWrong(check, 0, "1 " + leaf + " shr", "0");
            dueFirstWrong(check, 255 * step, "1 " + leaf + " not shr", "0");
            dueFirstWrong(check, 128 * step, leaf + " 128 and", "0");
            check.due(leaf + " is never above 255", verdict(leaf + " 255 and", variable), 0);
            check.due(leaf + " is never above 255, shifted", verdict(leaf + " 7 shr 1 shr", "0"), 0);
        }
        PeepholeRules x = States.fresh();
        Texts.accept(x, "k0 not", "v0 not");
        Texts.output(x, "0 not");
        Texts.output(x, "255 not");
        check.due("bound to both ends", x.optimize(), 2);
        check.due("0", Texts.shape(x, 0), "255");
        check.due("255", Texts.shape(x, 1), "0");
    }

    private static void constLeaf(Check check) {
        check.due("folded", verdict("v0 v0 sub", "7 7 sub"), 0);
        dueRewritten(check, "v0 0 and", "7 7 sub", "a0 0 and", "0");
        Room.dueNeeded(check, 1, "v0 0 and", "7 7 sub", "a0 0 and");
        Room.dueNeeded(check, 1, "v0 0 and", "0", "a0 0 and");
    }

    private static void varOfCvar(Check check) {
        dueRewritten(check, "k0 not 0 add", "v0 not", "7 not 0 add", "248");
        Room.dueNeeded(check, 0, "k0 0 add", "v0", "9 0 add");
        Room.dueNeeded(check, 1, "v0 0 add", "v0", "a0 0 add");
        Room.dueNeeded(check, 1, "k0 not", "v0 not", "9 not");
        Room.dueNeeded(check, 2, "v0 not not not", "v0 not", "9 not not not");
    }

    private static void constantOperands(Check check) {
        check.due("a unary node", verdict("k0 not", "v0 not"), 0);
        check.due("a unary node of a VAR", verdict("v0 not", "v0 not"), 5);
        check.due("a binary node", verdict("k0 k1 mul", "v0 v1 mul"), 0);
        check.due("operand A alone", verdict("k0 v1 mul", "v0 v1 mul"), 5);
        check.due("operand B alone", verdict("v0 k1 mul", "v0 v1 mul"), 5);
        check.due("a CONST and a VAR", verdict("v0 7 add", "v0 7 add"), 5);
        check.due("deep ones", verdict("k0 not not", "v0 1 add 1 sub neg neg"), 0);
        check.due("eight of them", verdict("v0 v0 xor 3 or", "1 not 2 add neg neg 3 add"), 0);
        dueRewritten(check, "k0 neg", "v0 not 1 add", "7 neg", "249");
        dueRewritten(check, "v0 k1 add 1 add", "v0 v1 1 add add", "a0 7 add 1 add", "a0 8 add");
    }

    private static void maximalRoot(Check check) {
        Room.dueNeeded(check, 1, "k0 k1 add", "v0 v1 1 mul 0 add add", "9 8 add");
        Room.dueNeeded(check, 1, "k0 not", "v0 not 0 or 0 or", "9 not");
        dueRewritten(check, "k0 k1 add", "v0 v1 1 mul 0 add add", "9 8 add", "17");
        dueRewritten(check, "k0 0 add", "v0", "9 0 add", "9");
    }

    private static void maximalOperand(Check check) {
        Room.dueNeeded(check, 3, "v0 1 add k1 add", "v0 v1 1 add add", "a0 1 add 7 add");
        Room.dueNeeded(check, 3, "1 v0 add k1 add", "v1 1 add v0 add", "1 a0 add 7 add");
        Room.dueNeeded(check, 5, "v0 k1 and 2 mul", "v0 v1 not not and 1 shl", "a0 7 and 2 mul");
        Room.dueNeeded(check, 2, "v1 0 add k0 add", "v1 v0 add", "a0 0 add 9 add");
        dueRewritten(check, "v0 k1 and 2 mul", "v0 v1 not not and 1 shl", "a0 7 and 2 mul", "a0 7 and 1 shl");
        // A refused draft whose first node was maximal leaves no mark on the next one's first node.
        PeepholeRules x = new PeepholeRules(8, 4);
        check.due("refused", Texts.commit(x, "v0 v0 add v0 add", "3 v0 add"), 6);
        Texts.accept(x, "v0 0 and", "255 not");
        x.addOutput(Texts.chain(x, 10, Texts.nodes(x, "a0 0 and"), 7));
        check.due("room for one node is enough", x.optimize(), 1);
    }

    private static void patternWeight(Check check) {
        check.due("constant parts count", verdict("1 2 add v0 add", "v0 3 add"), 0);
        check.due("a constant MUL counts 3", verdict("1 2 mul v0 add", "2 v0 not not add"), 0);
        check.due("and no more", verdict("1 2 mul v0 add", "2 v0 neg neg 0 or add"), 5);
        check.due("CVARs' parts count", verdict("k0 not not v1 add", "v0 v1 add"), 0);
        check.due("all of seven", verdict("v0 not not not not not not not", "v0 not not not not not 0 or"), 0);
        check.due("not eight", verdict("v0 not not not not not not not", "v0 not not not not not not not"), 5);
    }

    private static void replacementWeight(Check check) {
        check.due("constant parts do not count", verdict("v0 k1 add 1 add", "v0 v1 1 add add"), 0);
        check.due("nor a constant MUL", verdict("v0 k1 mul 3 mul", "v0 v1 3 mul mul"), 0);
        check.due("nor one at the root", verdict("k0 k1 add", "v0 v1 add 3 mul 171 mul"), 0);
        check.due("the others do", verdict("v0 v1 add 1 add", "v0 v1 1 add add"), 5);
        check.due("a MUL counts 3", verdict("v0 v0 add v0 add", "v0 3 mul"), 5);
        check.due("a part above a constant one counts", verdict("k0 v1 add", "v0 3 add v1 add"), 5);
    }
}
