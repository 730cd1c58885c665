import java.io.IOException;

final class TermsDagTest {
    public static void main(String[] args) throws IOException {
        Sentences document = new Sentences("DAG");
        document.test("in the order they are added.", TermsDagTest::numbers);
        document.test("There are up to 4 outputs, each naming a node.", TermsDagTest::outputs);
        document.test("A node is live if it can be reached from an output through operand links.", TermsDagTest::live);
        document.test("uses(n) is the count of the operand slots of live nodes that refer to n", TermsDagTest::slots);
        document.test("(a binary node has slots A and B, a unary node has slot A)", TermsDagTest::slotsOfKinds);
        document.test("plus the output entries that refer to n", TermsDagTest::outputEntries);
        document.finish();
    }

    private static void numbers(Check check) {
        PeepholeRules x = new PeepholeRules(32, 1);
        for (int n = 0; n < 32; n++) {
            check.due("a refused one has none", x.addNode(9, n, 0), -1);
            check.due("node", x.addNode(11, 100 + n, 0), n);
        }
        check.due("none is left", x.addNode(11, 0, 0), -1);
        for (int n : new int[] {0, 1, 30, 31}) {
            int k = x.addOutput(n);
            check.due("node " + n + " is the one added then", x.eval(k, 0, false), 100 + n);
        }
    }

    private static void outputs(Check check) {
        PeepholeRules x = States.fresh();
        for (int n = 0; n < 4; n++) {
            x.addNode(12, n, 0);
        }
        for (int k = 0; k < 4; k++) {
            check.due("output", x.addOutput(3 - k), k);
        }
        check.due("no fifth", x.addOutput(0), -1);
        for (int k = 0; k < 4; k++) {
            check.due("its node", Texts.shape(x, k), "a" + (3 - k));
        }
        check.due("an output needs a node", States.fresh().addOutput(0), -1);
    }

    private static void live(Check check) {
        PeepholeRules x = States.fresh();
        int left = Texts.nodes(x, "a0 not");
        int right = Texts.nodes(x, "a1 neg");
        int sum = x.addNode(1, left, right);
        x.addNode(3, sum, sum);
        check.due("no output", x.stat(0), 0);
        x.addOutput(left);
        check.due("through A of a unary node", x.stat(0), 2);
        x.addOutput(sum);
        check.due("through A and B", x.stat(0), 5);
        check.due("not what is above", x.countOp(3), 0);
        PeepholeRules chain = new PeepholeRules(32, 1);
        int n = chain.addNode(12, 0, 0);
        for (int i = 1; i < 32; i++) {
            n = i % 2 == 0 ? chain.addNode(9, n, 0) : chain.addNode(1, 0, n);
        }
        chain.addOutput(n);
        check.due("31 links away", chain.stat(0), 32);
        // 15 levels of shared operands have 2^15 ways down, but 16 nodes.
        PeepholeRules shared = States.fresh();
        n = shared.addNode(12, 0, 0);
        for (int i = 1; i < 16; i++) {
            n = shared.addNode(1, n, n);
        }
        shared.addOutput(n);
        check.due("a shared node is one", shared.stat(0), 16);
    }

    // v0 not not -> v0 asks for a single use of the inner NOT, so it tells whether there is one.
    private static PeepholeRules withRule() {
        PeepholeRules x = new PeepholeRules(32, 4);
        Texts.accept(x, "v0 not not", "v0");
        return x;
    }

    private static void slots(Check check) {
        PeepholeRules one = withRule();
        Texts.output(one, "a0 not not");
        check.due("one slot", one.optimize(), 1);
        PeepholeRules two = withRule();
        int inner = Texts.nodes(two, "a0 not");
        two.addOutput(two.addNode(9, inner, 0));
        two.addOutput(two.addNode(10, inner, 0));
        check.due("slots of two nodes", two.optimize(), 0);
        PeepholeRules dead = withRule();
        inner = Texts.nodes(dead, "a0 not");
        dead.addOutput(dead.addNode(9, inner, 0));
        dead.addNode(10, inner, 0);
        check.due("a dead node's slot is none", dead.optimize(), 1);
        // Taking the AND away leaves the NOT with a single use.
        PeepholeRules later = withRule();
        Texts.accept(later, "v0 0 and", "0");
        inner = Texts.nodes(later, "a0 not");
        later.addOutput(later.addNode(9, inner, 0));
        later.addOutput(later.addNode(4, inner, later.addNode(11, 0, 0)));
        check.due("uses are counted anew", later.optimize(), 2);
        check.due("output 0", Texts.shape(later, 0), "a0");
    }

    private static void slotsOfKinds(Check check) {
        PeepholeRules both = new PeepholeRules(32, 4);
        Texts.accept(both, "v0 not v1 not and", "v0 v1 or not");
        int inner = Texts.nodes(both, "a0 not");
        both.addOutput(both.addNode(4, inner, inner));
        check.due("A and B of one node are two", both.optimize(), 0);
        PeepholeRules asA = withRule();
        inner = Texts.nodes(asA, "a0 not");
        asA.addOutput(asA.addNode(9, inner, 0));
        asA.addOutput(asA.addNode(2, inner, asA.addNode(12, 1, 0)));
        check.due("a second use as A", asA.optimize(), 0);
        PeepholeRules asB = withRule();
        inner = Texts.nodes(asB, "a0 not");
        asB.addOutput(asB.addNode(9, inner, 0));
        asB.addOutput(asB.addNode(2, asB.addNode(12, 1, 0), inner));
        check.due("a second use as B", asB.optimize(), 0);
        PeepholeRules unary = withRule();
        unary.addNode(12, 0, 0);
        unary.addNode(9, 0, 0);
        unary.addOutput(unary.addNode(9, 1, 1));
        check.due("a unary node has no slot B", unary.optimize(), 1);
    }

    private static void outputEntries(Check check) {
        for (boolean before : new boolean[] {true, false}) {
            PeepholeRules x = withRule();
            int inner = Texts.nodes(x, "a0 not");
            int root = x.addNode(9, inner, 0);
            x.addOutput(before ? inner : root);
            x.addOutput(before ? root : inner);
            check.due("an output beside a slot", x.optimize(), 0);
        }
        PeepholeRules last = withRule();
        int inner = Texts.nodes(last, "a0 not");
        int root = last.addNode(9, inner, 0);
        for (int k = 0; k < 3; k++) {
            last.addOutput(root);
        }
        last.addOutput(inner);
        check.due("the last of four outputs", last.optimize(), 0);
        PeepholeRules three = withRule();
        root = Texts.nodes(three, "a0 not not");
        for (int k = 0; k < 4; k++) {
            three.addOutput(root);
        }
        check.due("outputs of the root are no uses of the inner node", three.optimize(), 1);
    }
}
