import java.io.IOException;

final class NotPromisedTest {
    public static void main(String[] args) throws IOException {
        Sentences document = new Sentences("Not promised");
        document.opens("How nodes, outputs, rules and the draft are stored inside, and how matches are searched for, is free");
        document.test("Which numbers the nodes carry after the first optimize() is free; no method shows them.",
            NotPromisedTest::noNumbers);
        document.opens("The running time of ruleCommit and optimize is free.");
        document.finish();
    }

    // A node's number could only be answered by addNode, or be told by what addOutput takes.
    private static void noNumbers(Check check) {
        for (int calls = 1; calls <= 2; calls++) {
            PeepholeRules x = States.built();
            for (int i = 0; i < calls; i++) {
                x.optimize();
            }
            for (int n = -1; n <= 64; n++) {
                check.due("output of node " + n, x.addOutput(n), -1);
                check.due("node over " + n, x.addNode(PeepholeRules.NOT, n, n), -1);
            }
        }
        // The same expression in other numbers answers the same.
        PeepholeRules low = States.fresh();
        Texts.accept(low, "v0 not not", "v0");
        PeepholeRules high = States.fresh();
        Texts.accept(high, "v0 not not", "v0");
        Texts.nodes(high, "a3 7 a2 mul sub");
        for (PeepholeRules x : new PeepholeRules[] {low, high}) {
            Texts.output(x, "a0 5 sub not not a1 add");
            x.optimize();
        }
        check.due("all answers", Texts.state(high), Texts.state(low));
    }
}
