import java.io.IOException;

final class TermsMatchTest {
    public static void main(String[] args) throws IOException {
        Sentences document = new Sentences("Match");
        document.test("Match of rule r at a live node R", TermsMatchTest::liveNode);
        document.test("m(root) = R.", TermsMatchTest::root);
        document.test("m(p) has p's kind", TermsMatchTest::kind);
        document.test("the operands of m(p) are m of p's children, in order", TermsMatchTest::operandsInOrder);
        document.test("CONST c: m(p) is a CONST node of value c.", TermsMatchTest::constants);
        document.test("VAR j: m(p) is any node.", TermsMatchTest::vars);
        document.test("CVAR j: m(p) is a CONST node.", TermsMatchTest::cvars);
        document.test("All leaves naming the same j map to the same node.", TermsMatchTest::sameNode);
        document.test("This node is j's binding; its value is j's value.", TermsMatchTest::binding);
        document.test("Each non-root binary or unary pattern node p has uses(m(p)) = 1.", TermsMatchTest::singleUse);
        document.test("The precondition holds for the bound values.", TermsMatchTest::precondition);
        document.test("live + new <= maxNodes", TermsMatchTest::room);
        document.test("where live is the number of live nodes", TermsMatchTest::liveNodesTakeRoom);
        document.test("new is the number of replacement nodes that are not constant-valued", TermsMatchTest::operationsNeedRoom);
        document.test("plus the number of maximal constant-valued subtrees that are not a single VAR leaf",
            TermsMatchTest::constantsNeedRoom);
        document.test("VAR leaves that are not constant-valued are counted in new, once per leaf, although they create no node.",
            TermsMatchTest::varLeavesNeedRoom);
        document.finish();
    }

    private static PeepholeRules with(String pattern, String replacement) {
        PeepholeRules x = new PeepholeRules(32, 16);
        Texts.accept(x, pattern, replacement);
        return x;
    }

    private static void dueApplied(Check check, int want, String pattern, String replacement, String expression) {
        PeepholeRules x = with(pattern, replacement);
        Texts.output(x, expression);
        check.due(pattern + " in " + expression, x.optimize(), want);
    }

    private static void liveNode(Check check) {
        PeepholeRules x = with("v0 not not", "v0");
        Texts.nodes(x, "a0 not not");
        Texts.output(x, "a1 neg");
        check.due("a dead node has none", x.optimize(), 0);
        PeepholeRules y = with("v0 not not", "v0");
        Texts.nodes(y, "a0 not not");
        check.due("nor has any node without an output", y.optimize(), 0);
    }

    private static void root(Check check) {
        PeepholeRules x = with("v0 not not", "v0");
        Texts.output(x, "a0 not not neg");
        check.due("below another node", x.optimize(), 1);
        check.due("that one stays", Texts.shape(x, 0), "a0 neg");
        PeepholeRules y = with("v0 not neg", "v0 1 add");
        Texts.output(y, "a0 neg not neg");
        check.due("above another node", y.optimize(), 1);
        check.due("that one stays too", Texts.shape(y, 0), "a0 neg 1 add");
    }

    private static void kind(Check check) {
        dueApplied(check, 1, "v0 neg not", "v0 1 sub", "a0 neg not");
        dueApplied(check, 0, "v0 neg not", "v0 1 sub", "a0 not neg");
        dueApplied(check, 0, "v0 neg not", "v0 1 sub", "a0 neg neg");
        dueApplied(check, 0, "v0 neg not", "v0 1 sub", "a0 not not");
        dueApplied(check, 0, "v0 0 add", "v0", "a0 0 or");
        dueApplied(check, 0, "v0 0 add", "v0", "0 neg");
        dueApplied(check, 0, "0 neg", "0", "0 a0 add");
        dueApplied(check, 0, "v0 not not", "v0", "a0 not");
    }

    private static void operandsInOrder(Check check) {
        dueApplied(check, 1, "v0 0 sub", "v0", "a0 0 sub");
        dueApplied(check, 0, "v0 0 sub", "v0", "0 a0 sub");
        dueApplied(check, 0, "v0 0 add", "v0", "0 a0 add");
        dueApplied(check, 0, "v0 v1 neg add", "v0 v1 sub", "a0 neg a1 add");
        dueApplied(check, 1, "v0 not v1 neg add not", "v0 v1 add", "a0 not a1 neg add not");
        dueApplied(check, 0, "v0 not v1 neg add not", "v0 v1 add", "a0 neg a1 not add not");
    }

    private static void constants(Check check) {
        for (int c : new int[] {0, 1, 254, 255}) {
            String pattern = "v0 " + c + " xor " + c + " xor";
            dueApplied(check, 1, pattern, "v0", "a0 " + c + " xor " + c + " xor");
            int other = c == 0 ? 255 : c - 1;
            dueApplied(check, 0, pattern, "v0", "a0 " + other + " xor " + c + " xor");
            dueApplied(check, 0, pattern, "v0", "a0 " + c + " xor " + other + " xor");
        }
        dueApplied(check, 0, "v0 2 mul", "v0 v0 add", "a0 a2 mul");
        dueApplied(check, 0, "v0 0 add", "v0", "a1 a0 add");
        dueApplied(check, 0, "v0 0 add", "v0", "a0 7 not add");
        PeepholeRules x = with("v0 3 add 3 sub", "v0");
        Texts.output(x, "a0 3 add 3 sub");
        check.due("equal constants may be two nodes", x.optimize(), 1);
        PeepholeRules y = with("v0 3 add 3 sub", "v0");
        int three = y.addNode(11, 259, 0);
        y.addOutput(y.addNode(2, y.addNode(1, y.addNode(12, 0, 0), three), three));
        check.due("or one, given as 259", y.optimize(), 1);
    }

    private static void vars(Check check) {
        PeepholeRules x = with("v0 0 or", "v0");
        Texts.output(x, "a3 0 or");
        Texts.output(x, "0 0 or");
        Texts.output(x, "a1 not 0 or");
        Texts.output(x, "a1 a2 mul 0 or");
        check.due("an input, a constant, operations", x.optimize(), 4);
        check.due("an input", Texts.shape(x, 0), "a3");
        check.due("a constant", Texts.shape(x, 1), "0");
        check.due("a unary node", Texts.shape(x, 2), "a1 not");
        check.due("a binary node", Texts.shape(x, 3), "a1 a2 mul");
        PeepholeRules y = with("v0 v1 neg add", "v0 v1 sub");
        int n = Texts.nodes(y, "a0");
        y.addOutput(y.addNode(1, n, y.addNode(10, n, 0)));
        check.due("two variables may be one node", y.optimize(), 1);
        PeepholeRules z = with("v0 0 or", "v0");
        int shared = Texts.nodes(z, "a0 not");
        z.addOutput(shared);
        z.addOutput(z.addNode(5, shared, z.addNode(11, 0, 0)));
        check.due("also one with many uses", z.optimize(), 1);
    }

    private static void cvars(Check check) {
        dueApplied(check, 1, "k0 0 or", "v0", "0 0 or");
        dueApplied(check, 1, "k0 0 or", "v0", "255 0 or");
        dueApplied(check, 0, "k0 0 or", "v0", "a0 0 or");
        dueApplied(check, 0, "k0 0 or", "v0", "7 not 0 or");
        dueApplied(check, 0, "v1 k0 add 1 add", "v1 v0 1 add add", "a0 a1 add 1 add");
        dueApplied(check, 0, "v1 k0 add 1 add", "v1 v0 1 add add", "7 a1 add 1 add");
        dueApplied(check, 1, "v1 k0 add 1 add", "v1 v0 1 add add", "a1 7 add 1 add");
    }

    private static void sameNode(Check check) {
        dueApplied(check, 0, "v0 v0 xor", "0", "a0 a0 xor");
        dueApplied(check, 0, "k1 k1 sub", "0", "5 5 sub");
        PeepholeRules x = with("v0 v0 xor", "0");
        Texts.accept(x, "k1 k1 sub", "0");
        int a = Texts.nodes(x, "a0");
        int c = Texts.nodes(x, "5");
        x.addOutput(x.addNode(6, a, a));
        x.addOutput(x.addNode(2, c, c));
        check.due("one node each", x.optimize(), 2);
        PeepholeRules y = with("v0 v1 or v0 v1 and sub", "v0 v1 xor");
        a = Texts.nodes(y, "a0");
        int b = Texts.nodes(y, "a1");
        y.addOutput(y.addNode(2, y.addNode(5, a, b), y.addNode(4, a, b)));
        y.addOutput(y.addNode(2, y.addNode(5, a, b), y.addNode(4, b, a)));
        check.due("each j in its places", y.optimize(), 1);
        check.due("the right one", Texts.shape(y, 0), "a0 a1 xor");
    }

    private static void binding(Check check) {
        PeepholeRules x = with("v0 2 mul", "v0 v0 add");
        Texts.output(x, "a0 not 2 mul");
        x.optimize();
        check.due("a VAR is its binding, not a copy", x.stat(0), 3);
        PeepholeRules y = with("k0 k1 sub", "v0 v1 sub");
        Texts.output(y, "0 255 sub");
        Texts.output(y, "255 0 sub");
        y.optimize();
        check.due("values 0 and 255", Texts.shape(y, 0), "1");
        check.due("values 255 and 0", Texts.shape(y, 1), "255");
    }

    private static void singleUse(Check check) {
        PeepholeRules x = with("v0 not not", "v0");
        int inner = Texts.nodes(x, "a0 not");
        int root = x.addNode(9, inner, 0);
        x.addOutput(x.addNode(1, root, inner));
        check.due("two uses", x.optimize(), 0);
        x.clearDag();
        inner = Texts.nodes(x, "a0 not");
        root = x.addNode(9, inner, 0);
        x.addOutput(x.addNode(1, root, inner));
        x.addOutput(inner);
        check.due("three uses", x.optimize(), 0);
        x.clearDag();
        root = Texts.nodes(x, "a0 not not");
        x.addOutput(x.addNode(1, root, root));
        x.addOutput(root);
        check.due("the root may be used often", x.optimize(), 1);
        check.due("output 0", Texts.shape(x, 0), "a0 a0 add");
        PeepholeRules y = with("v0 3 add 3 sub", "v0");
        int three = Texts.nodes(y, "3");
        int a = y.addNode(12, 0, 0);
        y.addOutput(y.addNode(2, y.addNode(1, a, three), three));
        y.addOutput(three);
        y.addOutput(a);
        check.due("leaves may be used often", y.optimize(), 1);
        // The deepest and a binary inner node are asked for a single use too.
        PeepholeRules z = with("v0 v1 add not not not", "v0 v1 add not");
        int sum = Texts.nodes(z, "a0 a1 add");
        z.addOutput(z.addNode(9, z.addNode(9, z.addNode(9, sum, 0), 0), 0));
        z.addOutput(sum);
        check.due("a deep inner node with two uses", z.optimize(), 0);
    }

    private static void precondition(Check check) {
        PeepholeRules x = new PeepholeRules(32, 16);
        Texts.acceptIf(x, Texts.pre(4, 1, 8), "v0 k1 shl", "0");
        Texts.acceptIf(x, Texts.pre(1, 0, 0), "v1 k0 add", "v1");
        Texts.output(x, "a0 7 shl");
        Texts.output(x, "a0 8 shl");
        Texts.output(x, "a0 1 add");
        Texts.output(x, "a0 0 add");
        check.due("two of four", x.optimize(), 2);
        check.due("7", Texts.shape(x, 0), "a0 7 shl");
        check.due("8", Texts.shape(x, 1), "0");
        check.due("1", Texts.shape(x, 2), "a0 1 add");
        check.due("0", Texts.shape(x, 3), "a0");
        PeepholeRules never = new PeepholeRules(32, 16);
        Texts.acceptIf(never, Texts.pre(3, 0, 0), "v1 k0 add", "7");
        Texts.output(never, "a0 0 add");
        Texts.output(never, "a0 255 add");
        check.due("one that never holds", never.optimize(), 0);
        PeepholeRules next = new PeepholeRules(32, 16);
        Texts.acceptIf(next, Texts.pre(1, 0, 3), "k0 not", "v0 not");
        Texts.acceptIf(next, Texts.pre(1, 0, 4), "k0 not", "v0 not");
        Texts.output(next, "4 not");
        next.optimize();
        check.due("each rule has its own", next.ruleUses(1), 1);
    }

    private static void room(Check check) {
        for (int maxNodes : new int[] {8, 9, 31, 32}) {
            for (int free = 0; free <= 3; free++) {
                PeepholeRules x = new PeepholeRules(maxNodes, 4);
                Texts.accept(x, "v0 neg neg not", "v0 not");
                x.addOutput(Texts.chain(x, 9, Texts.nodes(x, "a0 neg neg not"), maxNodes - free));
                check.due(free + " free of " + maxNodes, x.optimize(), free >= 2 ? 1 : 0);
            }
        }
        // A match without room is no match, and the next rule is tried.
        PeepholeRules y = new PeepholeRules(8, 4);
        Texts.accept(y, "v0 neg neg", "v0 0 or");
        Texts.accept(y, "v0 neg neg", "v0");
        Texts.output(y, "a0 neg neg not not not");
        check.due("6 live nodes of 8", y.optimize(), 1);
        check.due("no room for the first rule", y.ruleUses(0), 0);
        check.due("room for the second", y.ruleUses(1), 1);
    }

    private static void liveNodesTakeRoom(Check check) {
        PeepholeRules x = new PeepholeRules(8, 4);
        Texts.accept(x, "v0 2 mul", "v0 v0 add");
        Texts.output(x, "a0 2 mul");
        for (int i = 3; i < 8; i++) {
            x.addNode(12, 1, 0);
        }
        check.due("dead nodes take none", x.optimize(), 1);
        // Four live nodes go with output 1's application, so that of output 0 finds room after it.
        PeepholeRules y = new PeepholeRules(10, 4);
        Texts.accept(y, "v0 0 and", "0");
        Texts.accept(y, "v0 2 mul", "v0 v0 add");
        Texts.output(y, "a0 2 mul");
        Texts.output(y, "a1 not not 0 and");
        check.due("nodes deleted by an application take none", y.optimize(), 2);
    }

    private static void operationsNeedRoom(Check check) {
        Room.dueNeeded(check, 2, "v0 not not not", "v0 not", "a0 not not not");
        Room.dueNeeded(check, 3, "v0 not not not not", "v0 neg neg", "a0 not not not not");
        Room.dueNeeded(check, 3, "v0 v1 sub not not", "v0 v1 sub", "a0 a1 sub not not");
        // v0, 1, shl, v0, add.
        Room.dueNeeded(check, 5, "v0 3 mul", "v0 1 shl v0 add", "a0 3 mul");
    }

    private static void constantsNeedRoom(Check check) {
        Room.dueNeeded(check, 1, "v0 0 and", "0", "a0 0 and");
        Room.dueNeeded(check, 1, "k0 k1 add", "v0 v1 1 mul 0 add add", "9 8 add");
        Room.dueNeeded(check, 3, "v0 1 add k1 add", "v0 v1 1 add add", "a0 1 add 7 add");
        Room.dueNeeded(check, 5, "v0 k1 and 2 mul", "v0 v1 not not and 1 shl", "a0 7 and 2 mul");
        Room.dueNeeded(check, 0, "k0 0 add", "v0", "9 0 add");
        Room.dueNeeded(check, 2, "v1 0 add k0 add", "v1 v0 add", "a0 0 add 9 add");
    }

    private static void varLeavesNeedRoom(Check check) {
        Room.dueNeeded(check, 1, "v0 0 add", "v0", "a0 0 add");
        Room.dueNeeded(check, 3, "v0 2 mul", "v0 v0 add", "a0 2 mul");
        Room.dueNeeded(check, 5, "v0 3 mul", "v0 v0 add v0 add", "a0 3 mul");
        Room.dueNeeded(check, 1, "v0 v1 0 and add", "v0", "a0 a1 0 and add");
        PeepholeRules x = with("v0 3 mul", "v0 v0 add v0 add");
        Texts.output(x, "a0 3 mul");
        x.optimize();
        check.due("they create no node", x.stat(0), 3);
    }
}
