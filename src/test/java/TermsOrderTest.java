import java.io.IOException;

final class TermsOrderTest {
    public static void main(String[] args) throws IOException {
        Sentences document = new Sentences("Order");
        document.test("Nodes are visited in postorder from output 0, 1, 2", TermsOrderTest::outputsInTurn);
        document.test("operand A's subtree, then B's subtree", TermsOrderTest::operandAFirst);
        document.test("then the node", TermsOrderTest::childrenFirst);
        document.test("Each node is taken once, at its first completion.", TermsOrderTest::firstCompletion);
        document.test("For each binary or unary node in this order, the rules are tried in increasing index.",
            TermsOrderTest::rulesInTurn);
        document.test("The first match found is applied, and the search starts again from the beginning.",
            TermsOrderTest::searchStartsAgain);
        document.test("It stops when a full search finds no match.", TermsOrderTest::stops);
        document.test("Every application lowers the total live weight by at least 1.", TermsOrderTest::weightFalls);
        document.finish();
    }

    // v0 * 3 asks for room for 5 nodes and takes one node more, so with room for one alone, the first visited has it.
    private static PeepholeRules withMul(int maxNodes) {
        PeepholeRules x = new PeepholeRules(maxNodes, 4);
        Texts.accept(x, "v0 3 mul", "v0 1 shl v0 add");
        return x;
    }

    private static void outputsInTurn(Check check) {
        for (int first = 0; first < 4; first++) {
            PeepholeRules x = withMul(17);
            int[] nodes = new int[4];
            for (int i = 0; i < 4; i++) {
                nodes[i] = Texts.nodes(x, "a" + i + " 3 mul");
            }
            for (int k = 0; k < 4; k++) {
                x.addOutput(nodes[(first + k) % 4]);
            }
            check.due("room for one", x.optimize(), 1);
            check.due("output 0 has it", Texts.shape(x, 0), "a" + first + " 1 shl a" + first + " add");
            for (int k = 1; k < 4; k++) {
                check.due("output " + k + " has not", x.nodeAt(k, 0, 0), 3 * 256);
            }
        }
        PeepholeRules y = withMul(12);
        int low = Texts.nodes(y, "a1 3 mul");
        int high = Texts.nodes(y, "a0 3 mul");
        Texts.output(y, "a2");
        y.addOutput(high);
        y.addOutput(low);
        y.optimize();
        check.due("output 1", Texts.shape(y, 1), "a0 1 shl a0 add");
        check.due("output 2", Texts.shape(y, 2), "a1 3 mul");
    }

    private static void operandAFirst(Check check) {
        PeepholeRules x = withMul(12);
        Texts.output(x, "a0 3 mul a1 3 mul add");
        check.due("room for one", x.optimize(), 1);
        check.due("it is operand A's", Texts.shape(x, 0), "a0 1 shl a0 add a1 3 mul add");
        PeepholeRules y = withMul(12);
        int b = Texts.nodes(y, "a1 3 mul");
        int a = Texts.nodes(y, "a0 3 mul");
        y.addOutput(y.addNode(1, a, b));
        y.optimize();
        check.due("not the lower number's", Texts.shape(y, 0), "a0 1 shl a0 add a1 3 mul add");
        // A's whole subtree comes before B's, also where A's product lies deeper.
        PeepholeRules z = withMul(14);
        Texts.output(z, "a0 3 mul not neg a1 3 mul add");
        z.optimize();
        check.due("the deeper one", Texts.shape(z, 0), "a0 1 shl a0 add not neg a1 3 mul add");
    }

    private static void childrenFirst(Check check) {
        PeepholeRules x = new PeepholeRules(32, 4);
        Texts.accept(x, "v0 0 add not", "v0 not");
        Texts.accept(x, "v0 0 add", "v0");
        Texts.output(x, "a0 0 add not");
        check.due("one application", x.optimize(), 1);
        check.due("not at the parent", x.ruleUses(0), 0);
        check.due("at operand A", x.ruleUses(1), 1);
        PeepholeRules y = new PeepholeRules(32, 4);
        Texts.accept(y, "v1 v0 0 add sub", "v1 v0 sub");
        Texts.accept(y, "v0 0 add", "v0");
        Texts.output(y, "a1 a0 0 add sub");
        y.optimize();
        check.due("not at B's parent", y.ruleUses(0), 0);
        check.due("at operand B", y.ruleUses(1), 1);
        PeepholeRules z = withMul(12);
        Texts.output(z, "a0 3 mul a1 add 3 mul");
        check.due("room for one", z.optimize(), 1);
        check.due("the lower one has it", Texts.shape(z, 0), "a0 1 shl a0 add a1 add 3 mul");
    }

    // The product of a1 is below both outputs; its place is where output 0 reaches it first, as its operand B.
    private static void firstCompletion(Check check) {
        PeepholeRules x = withMul(13);
        int shared = Texts.nodes(x, "a1 3 mul");
        int other = Texts.nodes(x, "a0 3 mul");
        x.addOutput(x.addNode(1, other, shared));
        x.addOutput(x.addNode(9, shared, 0));
        check.due("room for one", x.optimize(), 1);
        check.due("A comes before the shared B", Texts.shape(x, 0), "a0 1 shl a0 add a1 3 mul add");
        PeepholeRules y = withMul(13);
        shared = Texts.nodes(y, "a1 3 mul");
        other = Texts.nodes(y, "a0 3 mul");
        y.addOutput(y.addNode(9, shared, 0));
        y.addOutput(y.addNode(1, other, shared));
        y.optimize();
        check.due("output 0 comes before A of output 1", Texts.shape(y, 0), "a1 1 shl a1 add not");
        check.due("which stays", Texts.shape(y, 1), "a0 3 mul a1 1 shl a1 add add");
        PeepholeRules z = new PeepholeRules(32, 4);
        Texts.accept(z, "v0 not not", "v0");
        int n = Texts.nodes(z, "a0 not not");
        for (int k = 0; k < 4; k++) {
            z.addOutput(n);
        }
        check.due("taken once", z.optimize(), 1);
    }

    private static void rulesInTurn(Check check) {
        PeepholeRules x = new PeepholeRules(32, 16);
        for (int r = 0; r < 16; r++) {
            Texts.accept(x, "v0 1 mul", "v0");
        }
        Texts.output(x, "a0 1 mul a1 1 mul add");
        check.due("two applications", x.optimize(), 2);
        for (int r = 0; r < 16; r++) {
            check.due("uses of " + r, x.ruleUses(r), r == 0 ? 2 : 0);
        }
        PeepholeRules y = new PeepholeRules(32, 4);
        Texts.accept(y, "v0 v1 and 0 and", "0");
        Texts.accept(y, "v0 0 and", "0");
        Texts.output(y, "a0 a1 and 0 and");
        y.optimize();
        check.due("the first that matches", y.ruleUses(0), 1);
        check.due("not the shorter one", y.ruleUses(1), 0);
        // All rules are tried at a node before the next node is visited.
        PeepholeRules z = new PeepholeRules(32, 4);
        Texts.accept(z, "v0 not 0 add", "v0 not");
        Texts.accept(z, "0 v0 add not", "v0 not");
        Texts.accept(z, "0 v0 add", "v0");
        Texts.output(z, "0 a0 add not 0 add");
        check.due("two applications", z.optimize(), 2);
        check.due("rule 2 at the lowest node", z.ruleUses(2), 1);
        check.due("so rule 1 finds none", z.ruleUses(1), 0);
        check.due("rule 0 at the highest", z.ruleUses(0), 1);
    }

    // Output 1's rewriting leaves a0 + 0 with one use, so the new search rewrites output 0,
    // and that takes the room that output 2 would need.
    private static void searchStartsAgain(Check check) {
        PeepholeRules x = new PeepholeRules(15, 4);
        Texts.accept(x, "v0 0 add 3 mul", "v0 1 shl v0 add");
        Texts.accept(x, "v0 0 and", "0");
        int zero = x.addNode(11, 0, 0);
        int three = x.addNode(11, 3, 0);
        int sum0 = x.addNode(1, x.addNode(12, 0, 0), zero);
        int sum1 = x.addNode(1, x.addNode(12, 1, 0), zero);
        x.addOutput(x.addNode(3, sum0, three));
        x.addOutput(x.addNode(4, sum0, zero));
        x.addOutput(x.addNode(3, sum1, three));
        x.addOutput(x.addNode(5, zero, three));
        check.due("two applications", x.optimize(), 2);
        check.due("output 0", Texts.shape(x, 0), "a0 1 shl a0 add");
        check.due("output 1", Texts.shape(x, 1), "0");
        check.due("output 2", Texts.shape(x, 2), "a1 0 add 3 mul");
    }

    private static void stops(Check check) {
        PeepholeRules x = new PeepholeRules(32, 4);
        Texts.accept(x, "v0 not not", "v0");
        Texts.output(x, "a0 not not not not not not not");
        check.due("all that match", x.optimize(), 3);
        check.due("one NOT is left", Texts.shape(x, 0), "a0 not");
        check.due("none is left to match", x.optimize(), 0);
        // The last node of the last output is searched too.
        PeepholeRules y = new PeepholeRules(32, 4);
        Texts.accept(y, "v0 not not", "v0");
        for (int k = 0; k < 3; k++) {
            Texts.output(y, "a" + k + " neg");
        }
        Texts.output(y, "a3 neg not not");
        check.due("a match at the very end", y.optimize(), 1);
        check.due("output 3", Texts.shape(y, 3), "a3 neg");
    }

    private static void weightFalls(Check check) {
        String[][] rules = {
            {"1", "v0 0 add", "v0", "a0 0 add"},
            {"1", "v0 3 mul", "v0 1 shl v0 add", "a0 3 mul"},
            {"2", "v0 2 mul", "v0 v0 add", "a0 2 mul"},
            {"3", "v0 0 mul", "0", "a0 0 mul"},
            {"6", "v0 not not not not not not", "v0", "a0 not not not not not not"}
        };
        for (String[] rule : rules) {
            PeepholeRules x = new PeepholeRules(32, 4);
            Texts.accept(x, rule[1], rule[2]);
            Texts.output(x, rule[3]);
            int before = x.stat(1);
            check.due(rule[1] + ", applications", x.optimize(), 1);
            check.due(rule[1] + ", by how much", before - x.stat(1), Integer.parseInt(rule[0]));
        }
        // The operands that go with the root may lower it by more than the rule's own weights.
        PeepholeRules x = new PeepholeRules(32, 4);
        Texts.accept(x, "v0 0 and", "0");
        Texts.output(x, "a0 a1 mul 0 and");
        x.optimize();
        check.due("from 4", x.stat(2), 4);
        check.due("to 0", x.stat(1), 0);
    }
}
