import java.io.IOException;

final class Promise08OptimizeTest {
    public static void main(String[] args) throws IOException {
        Sentences document = new Sentences("Promise 8");
        document.test("the current DAG and its outputs are kept as the ORIGINAL", Promise08OptimizeTest::originalIsKept);
        document.test("and the phase becomes OPTIMIZED", Promise08OptimizeTest::phase);
        document.test("Then all nodes that are not live are deleted.", Promise08OptimizeTest::deadNodesAreDeleted);
        document.test("Then matches are found and applied in the stated Order until none is left.",
            Promise08OptimizeTest::untilNoneIsLeft);
        document.test("The answer is the number of applications made in this call", Promise08OptimizeTest::answer);
        document.test("it is 0 when there are no rules", Promise08OptimizeTest::noRules);
        document.test("no outputs", Promise08OptimizeTest::noOutputs);
        document.test("or no match", Promise08OptimizeTest::noMatch);
        document.test("Each application adds 1 to the application count and to the use count of the rule applied.",
            Promise08OptimizeTest::counts);
        document.test("It may be called again, for instance after new rules are added", Promise08OptimizeTest::calledAgain);
        document.test("the ORIGINAL is then kept as it was", Promise08OptimizeTest::originalStays);
        document.test("Rules, the draft and the counterexample do not change.", Promise08OptimizeTest::nothingElseChanges);
        document.test("eval(k, args, false) equals eval(k, args, true)", Promise08OptimizeTest::sameValuesInEveryState);
        document.test("stat(STAT_LIVE_COST) + stat(STAT_APPLICATIONS) <= stat(STAT_ORIG_COST)",
            Promise08OptimizeTest::costInEveryState);
        document.test("So the optimised DAG computes exactly what the original computes",
            Promise08OptimizeTest::sameValuesAtEdges);
        document.test("each optimize() call ends after at most ORIG_COST applications",
            Promise08OptimizeTest::mostApplications);
        document.finish();
    }

    private static PeepholeRules large() {
        return new PeepholeRules(32, 16);
    }

    private static void originalIsKept(Check check) {
        PeepholeRules x = large();
        Texts.accept(x, "v0 3 mul", "v0 1 shl v0 add");
        Texts.accept(x, "v0 0 and", "0");
        Texts.output(x, "a0 3 mul");
        Texts.output(x, "a1 0 and a2 sub");
        Texts.nodes(x, "a3 a3 mul");
        check.due("applications", x.optimize(), 2);
        check.due("its cost, without the dead node's", x.stat(2), 5);
        check.due("cost now", x.stat(1), 3);
        check.due("its output 0", x.eval(0, 0x0605, true), 15);
        check.due("its output 1", x.eval(1, 0x010605, true), 255);
        check.due("it has no third", x.eval(2, 0, true), -1);
        PeepholeRules y = large();
        int n = y.addNode(12, 0, 0);
        for (int i = 1; i < 32; i++) {
            n = y.addNode(3, n, n);
        }
        for (int k = 0; k < 4; k++) {
            y.addOutput(n);
        }
        y.optimize();
        check.due("cost of the largest there can be", y.stat(2), 93);
        check.due("its last output", y.eval(3, 255, true), 1);
        PeepholeRules empty = large();
        empty.optimize();
        check.due("cost of an empty one", empty.stat(2), 0);
        check.due("it has no output", empty.eval(0, 0, true), -1);
    }

    private static void phase(Check check) {
        PeepholeRules x = large();
        check.due("before", x.stat(7), 0);
        x.optimize();
        check.due("also of an empty DAG", x.stat(7), 1);
        x.optimize();
        check.due("and again", x.stat(7), 1);
        x.clearDag();
        check.due("cleared", x.stat(7), 0);
        Texts.output(x, "a0");
        x.optimize();
        check.due("a second DAG", x.stat(7), 1);
    }

    private static void deadNodesAreDeleted(Check check) {
        PeepholeRules x = large();
        Texts.nodes(x, "a0 a1 mul");
        int live = Texts.nodes(x, "a2 not");
        x.addNode(10, live, 0);
        x.addOutput(live);
        check.due("nodes before", x.stat(8), 6);
        check.due("nothing is applied", x.optimize(), 0);
        check.due("nodes after", x.stat(8), 2);
        check.due("shape", Texts.shape(x, 0), "a2 not");
        PeepholeRules y = large();
        Texts.accept(y, "v0 2 mul", "v0 v0 add");
        for (int i = 0; i < 29; i++) {
            y.addNode(12, 0, 0);
        }
        Texts.output(y, "a1 2 mul");
        check.due("full of dead nodes", y.stat(8), 32);
        check.due("they take no room", y.optimize(), 1);
        check.due("shape", Texts.shape(y, 0), "a1 a1 add");
        PeepholeRules z = large();
        Texts.accept(z, "v0 not not", "v0");
        int inner = Texts.nodes(z, "a0 not");
        z.addOutput(z.addNode(9, inner, 0));
        z.addNode(10, inner, 0);
        check.due("nor do they use what is live", z.optimize(), 1);
        PeepholeRules all = large();
        Texts.nodes(all, "a0 not");
        all.optimize();
        check.due("without an output none is left", all.stat(8), 0);
    }

    private static void untilNoneIsLeft(Check check) {
        PeepholeRules x = large();
        Texts.accept(x, "v0 neg neg not", "v0 not");
        int n = x.addNode(12, 0, 0);
        for (int i = 0; i < 9; i++) {
            n = x.addNode(9, x.addNode(10, x.addNode(10, n, 0), 0), 0);
        }
        x.addOutput(n);
        check.due("28 live nodes", x.stat(0), 28);
        check.due("nine applications", x.optimize(), 9);
        check.due("10 live nodes", x.stat(0), 10);
        check.due("ninth operand", x.nodeAt(0, 0, 8), 9 * 256);
        check.due("none is left", x.optimize(), 0);
        PeepholeRules y = large();
        Texts.accept(y, "v0 2 mul", "v0 v0 add");
        Texts.accept(y, "v0 v0 add 4 mul", "v0 8 mul");
        Texts.accept(y, "v0 8 mul", "v0 3 shl");
        Texts.output(y, "a0 2 mul 4 mul");
        check.due("one makes way for the next", y.optimize(), 3);
        check.due("the last shape", Texts.shape(y, 0), "a0 3 shl");
    }

    private static void answer(Check check) {
        PeepholeRules x = large();
        Texts.accept(x, "v0 not not", "v0");
        Texts.accept(x, "v0 0 add", "v0");
        Texts.output(x, "a0 not not not not 0 add a1 0 add sub 0 or");
        check.due("first call", x.optimize(), 4);
        check.due("second call", x.optimize(), 0);
        Texts.accept(x, "v0 0 or", "v0");
        check.due("third call", x.optimize(), 1);
    }

    private static void noRules(Check check) {
        PeepholeRules x = large();
        Texts.output(x, "a0 not not");
        check.due("answer", x.optimize(), 0);
        check.due("applications", x.stat(3), 0);
        check.due("it stays", Texts.shape(x, 0), "a0 not not");
        check.due("neither rules nor nodes", large().optimize(), 0);
        PeepholeRules refused = large();
        Texts.commit(refused, "v0 not", "v0");
        Texts.output(refused, "a0 not");
        check.due("a refused rule is none", refused.optimize(), 0);
        PeepholeRules drafted = large();
        Texts.pattern(drafted, "v0 not not");
        Texts.replacement(drafted, "v0");
        Texts.output(drafted, "a0 not not");
        check.due("nor is a draft", drafted.optimize(), 0);
    }

    private static void noOutputs(Check check) {
        PeepholeRules x = large();
        Texts.accept(x, "v0 not not", "v0");
        Texts.nodes(x, "a0 not not");
        check.due("answer", x.optimize(), 0);
        check.due("uses", x.ruleUses(0), 0);
        PeepholeRules y = large();
        Texts.accept(y, "v0 not not", "v0");
        check.due("nor nodes", y.optimize(), 0);
    }

    private static void noMatch(Check check) {
        PeepholeRules x = large();
        Texts.accept(x, "v0 not not", "v0");
        Texts.output(x, "a0 not neg not");
        check.due("answer", x.optimize(), 0);
        check.due("uses", x.ruleUses(0), 0);
        check.due("it stays", Texts.shape(x, 0), "a0 not neg not");
        PeepholeRules leaf = large();
        Texts.accept(leaf, "v0 not not", "v0");
        Texts.output(leaf, "a0");
        Texts.output(leaf, "7");
        check.due("leaves", leaf.optimize(), 0);
    }

    private static void counts(Check check) {
        PeepholeRules x = large();
        Texts.accept(x, "v0 not not", "v0");
        Texts.accept(x, "v0 0 add", "v0");
        Texts.accept(x, "v0 neg neg", "v0");
        Texts.output(x, "a0 not not not not 0 add a1 sub");
        check.due("answer", x.optimize(), 3);
        check.due("application count", x.stat(3), 3);
        check.due("uses of rule 0", x.ruleUses(0), 2);
        check.due("uses of rule 1", x.ruleUses(1), 1);
        check.due("uses of rule 2", x.ruleUses(2), 0);
        PeepholeRules y = new PeepholeRules(8, 16);
        for (int r = 0; r < 16; r++) {
            Texts.acceptIf(y, Texts.pre(1, 0, r), "k0 not", "v0 not");
        }
        Texts.output(y, "15 not");
        y.optimize();
        check.due("uses of the last of 16 rules", y.ruleUses(15), 1);
        check.due("uses of the one before", y.ruleUses(14), 0);
    }

    private static void calledAgain(Check check) {
        PeepholeRules x = large();
        Texts.accept(x, "v0 not not", "v0");
        Texts.output(x, "a0 not not 0 add");
        check.due("first", x.optimize(), 1);
        check.due("nothing left", x.optimize(), 0);
        Texts.accept(x, "v0 0 add", "v0");
        check.due("a new rule", x.optimize(), 1);
        check.due("applications in all", x.stat(3), 2);
        check.due("uses stay", x.ruleUses(0), 1);
        check.due("cost", x.stat(1), 0);
        PeepholeRules y = large();
        Texts.accept(y, "0 v0 add", "v0");
        Texts.accept(y, "v0 neg neg not", "v0 not");
        Texts.output(y, "0 a0 0 sub add neg neg not");
        check.due("nodes are built", y.optimize(), 2);
        Texts.accept(y, "v0 0 sub", "v0");
        check.due("and rewritten by the next call", y.optimize(), 1);
        check.due("shape", Texts.shape(y, 0), "a0 not");
    }

    private static void originalStays(Check check) {
        PeepholeRules x = large();
        Texts.output(x, "a0 3 mul 0 add");
        x.optimize();
        Texts.accept(x, "v0 0 add", "v0");
        x.optimize();
        check.due("cost after a second call", x.stat(2), 4);
        Texts.accept(x, "v0 3 mul", "v0 1 shl v0 add");
        x.optimize();
        check.due("cost after a third call", x.stat(2), 4);
        check.due("cost now", x.stat(1), 2);
        check.due("value", x.eval(0, 41, true), 123);
        x.optimize();
        check.due("cost after a fourth call", x.stat(2), 4);
    }

    private static void nothingElseChanges(Check check) {
        for (boolean half : new boolean[] {false, true}) {
            PeepholeRules x = half ? States.halfDrafted(States.built()) : States.drafted(States.built());
            x.optimize();
            check.due("rules", x.stat(4), 2);
            check.due("counterexample", x.stat(5), 256);
            check.due("outputs", x.stat(6), 2);
            check.due("the draft", x.ruleCommit(), half ? 2 : 0);
            x.clearDag();
            Texts.output(x, "a0 not not 8 shl 0 add");
            check.due("the rules act again", x.optimize(), half ? 2 : 3);
        }
        check.due("trees", States.trees(() -> {
            PeepholeRules x = States.halfDrafted(States.built());
            x.optimize();
            return x;
        }), States.trees(() -> States.halfDrafted(States.built())));
    }

    private static void dueSameValues(Check check, String when, PeepholeRules x) {
        int[] words = {0, -1, 0x01020304, 0x80808080, 0x7f7f7f7f, 0xff00ff00, Integer.MIN_VALUE, Integer.MAX_VALUE};
        for (int k = -1; k <= 4; k++) {
            for (int args : words) {
                check.due(when + ", output " + k, x.eval(k, args, false), x.eval(k, args, true));
            }
        }
        check.due(when + ", cost", x.stat(1) + x.stat(3) <= x.stat(2), true);
    }

    private static void sameValuesInEveryState(Check check) {
        States.all().forEach((name, made) -> {
            PeepholeRules x = made.get();
            dueSameValues(check, name, x);
            x.optimize();
            dueSameValues(check, name + ", optimised", x);
            x.ruleCommit();
            x.optimize();
            dueSameValues(check, name + ", with the draft as a rule", x);
            x.clearDag();
            dueSameValues(check, name + ", cleared", x);
            Texts.output(x, "a0 not not 8 shl 0 add");
            dueSameValues(check, name + ", built again", x);
        });
    }

    private static void costInEveryState(Check check) {
        PeepholeRules x = large();
        Texts.accept(x, "v0 2 mul", "v0 v0 add");
        Texts.output(x, "a0 2 mul 2 mul 2 mul");
        check.due("BUILDING", x.stat(1) + x.stat(3), x.stat(2));
        x.optimize();
        check.due("live cost", x.stat(1), 3);
        check.due("applications", x.stat(3), 3);
        check.due("original cost", x.stat(2), 9);
        x.clearDag();
        check.due("cleared", x.stat(1) + x.stat(3), x.stat(2));
        // Applications of an earlier DAG would break the sum of a cheaper later one.
        Texts.output(x, "a0 2 mul");
        x.optimize();
        check.due("a later DAG", x.stat(1) + x.stat(3), 2);
        check.due("its original cost", x.stat(2), 3);
    }

    private static void sameValuesAtEdges(Check check) {
        PeepholeRules x = large();
        Texts.accept(x, "v0 k1 add 1 add", "v0 v1 1 add add");
        Texts.acceptIf(x, Texts.pre(4, 1, 8), "v0 k1 shr", "0");
        Texts.accept(x, "k0 k1 sub", "v0 v1 sub");
        Texts.output(x, "a0 255 add 1 add");
        Texts.output(x, "a1 8 shr a2 7 shr or");
        Texts.output(x, "3 5 sub a3 add");
        check.due("applications", x.optimize(), 3);
        for (int v = 0; v <= 255; v++) {
            int args = v * 0x01010101;
            check.due("255 + 1 of " + v, x.eval(0, args, false), v);
            check.due("original 255 + 1 of " + v, x.eval(0, args, true), v);
            check.due("shifts of " + v, x.eval(1, args, false), v / 128);
            check.due("original shifts of " + v, x.eval(1, args, true), v / 128);
            check.due("3 - 5 + " + v, x.eval(2, args, false), (v + 254) % 256);
            check.due("original 3 - 5 + " + v, x.eval(2, args, true), (v + 254) % 256);
        }
    }

    // Each MUL is rewritten three times, each time to a weight that is 1 less.
    private static void mostApplications(Check check) {
        PeepholeRules x = large();
        Texts.accept(x, "v0 1 mul", "v0 not not");
        Texts.accept(x, "v0 not not", "v0 0 or");
        Texts.accept(x, "v0 0 or", "v0");
        int n = x.addNode(12, 2, 0);
        int one = x.addNode(11, 1, 0);
        for (int i = 0; i < 26; i++) {
            n = x.addNode(3, n, one);
        }
        x.addOutput(n);
        check.due("original cost", x.stat(2), 78);
        check.due("as many applications", x.optimize(), 78);
        check.due("shape", Texts.shape(x, 0), "a2");
        for (int r = 0; r < 3; r++) {
            check.due("uses of " + r, x.ruleUses(r), 26);
        }
        check.due("no more", x.optimize(), 0);
        PeepholeRules y = large();
        Texts.accept(y, "v0 0 add", "v0");
        n = y.addNode(12, 0, 0);
        int zero = y.addNode(11, 0, 0);
        for (int i = 0; i < 29; i++) {
            n = y.addNode(1, n, zero);
        }
        y.addOutput(n);
        check.due("a chain that is all taken away", y.optimize(), 29);
        check.due("its cost", y.stat(1), 0);
    }
}
