final class Promise08OptimizeTest {
    public static void main(String[] args) {
        Check check = new Check();
        nothingToDo(check);
        deadNodesAreDeleted(check);
        countsApplications(check);
        leavesMatch(check);
        sameVariableSameNode(check);
        innerNodesAreUsedOnce(check);
        usesOfDeadNodesDoNotCount(check);
        preconditionIsAsked(check);
        room(check);
        roomOfConstants(check);
        refusedDraftAsksForNoRoom(check);
        folding(check);
        bindingsAreShared(check);
        everyReferenceIsRedirected(check);
        childrenFirst(check);
        operandAFirst(check);
        outputsInTurn(check);
        rulesInTurn(check);
        searchStartsAgain(check);
        secondOptimize(check);
        manyDeadNodes(check);
        manyApplications(check);
        lastNode(check);
        nodesBuiltEarlierAreRewritten(check);
        nothingElseChanges(check);
        check.finish();
    }

    private static PeepholeRules fresh() {
        return new PeepholeRules(32, 16);
    }

    private static void rule(PeepholeRules x, String pattern, String replacement) {
        if (Texts.commit(x, pattern, replacement) != 0) {
            throw new IllegalStateException(pattern + " -> " + replacement);
        }
    }

    private static void nothingToDo(Check check) {
        PeepholeRules empty = fresh();
        check.due("nothing at all", empty.optimize(), 0);
        check.due("phase", empty.stat(7), 1);
        PeepholeRules noRules = fresh();
        Texts.output(noRules, "a0 not not");
        check.due("no rules", noRules.optimize(), 0);
        check.due("it stays", Texts.shape(noRules, 0), "a0 not not");
        PeepholeRules noOutputs = fresh();
        rule(noOutputs, "v0 not not", "v0");
        Texts.nodes(noOutputs, "a0 not not");
        check.due("no outputs", noOutputs.optimize(), 0);
        check.due("no nodes left", noOutputs.stat(8), 0);
        PeepholeRules noMatch = fresh();
        rule(noMatch, "v0 not not", "v0");
        Texts.output(noMatch, "a0 not neg not");
        check.due("no match", noMatch.optimize(), 0);
        PeepholeRules leaf = fresh();
        rule(leaf, "v0 not not", "v0");
        Texts.output(leaf, "a0");
        check.due("a leaf", leaf.optimize(), 0);
    }

    private static void deadNodesAreDeleted(Check check) {
        PeepholeRules x = fresh();
        Texts.nodes(x, "a0 a1 mul");
        Texts.output(x, "a2 not");
        Texts.nodes(x, "a3 neg");
        check.due("nodes before", x.stat(8), 7);
        x.optimize();
        check.due("nodes after", x.stat(8), 2);
        check.due("live", x.stat(0), 2);
        check.due("shape", Texts.shape(x, 0), "a2 not");
    }

    private static void countsApplications(Check check) {
        PeepholeRules x = fresh();
        rule(x, "v0 not not", "v0");
        rule(x, "v0 0 add", "v0");
        Texts.output(x, "a0 not not not not 0 add a1 0 add sub");
        Texts.output(x, "a0 neg");
        check.due("answer", x.optimize(), 4);
        check.due("application count", x.stat(3), 4);
        check.due("uses of rule 0", x.ruleUses(0), 2);
        check.due("uses of rule 1", x.ruleUses(1), 2);
        check.due("output 0", Texts.shape(x, 0), "a0 a1 sub");
        check.due("output 1", Texts.shape(x, 1), "a0 neg");
        check.due("original cost", x.stat(2), 8);
        check.due("cost", x.stat(1), 2);
    }

    private static void leavesMatch(Check check) {
        PeepholeRules x = fresh();
        rule(x, "v0 2 mul", "v0 v0 add");
        rule(x, "k0 k1 sub", "v0 v1 sub");
        Texts.output(x, "a0 3 mul");
        Texts.output(x, "2 a0 mul");
        Texts.output(x, "a1 9 sub");
        Texts.output(x, "9 a1 sub");
        check.due("another constant, another order, no constant", x.optimize(), 0);
        x.clearDag();
        Texts.output(x, "7 2 mul");
        Texts.output(x, "a2 not 2 mul");
        Texts.output(x, "3 9 sub");
        check.due("a VAR is any node", x.optimize(), 3);
        check.due("a constant", Texts.shape(x, 0), "7 7 add");
        check.due("an operation", Texts.shape(x, 1), "a2 not a2 not add");
        check.due("a CVAR is a constant", Texts.shape(x, 2), "250");
        x.clearDag();
        Texts.output(x, "a2 a0 mul");
        check.due("an ARG is no CONST of its number", x.optimize(), 0);
    }

    private static void sameVariableSameNode(Check check) {
        PeepholeRules x = fresh();
        rule(x, "v0 v0 xor", "0");
        rule(x, "k1 k1 sub", "0");
        Texts.output(x, "a0 a0 xor");
        Texts.output(x, "5 5 sub");
        check.due("equal leaves that are two nodes", x.optimize(), 0);
        x.clearDag();
        int a = Texts.nodes(x, "a0");
        int c = Texts.nodes(x, "5");
        x.addOutput(x.addNode(6, a, a));
        x.addOutput(x.addNode(2, c, c));
        check.due("one node", x.optimize(), 2);
        check.due("v0 v0", Texts.shape(x, 0), "0");
        check.due("k1 k1", Texts.shape(x, 1), "0");
        PeepholeRules y = fresh();
        rule(y, "v0 v1 neg add", "v0 v1 sub");
        int n = Texts.nodes(y, "a0");
        y.addOutput(y.addNode(1, n, y.addNode(10, n, 0)));
        check.due("two variables may be one node", y.optimize(), 1);
        check.due("shape", Texts.shape(y, 0), "a0 a0 sub");
    }

    private static void innerNodesAreUsedOnce(Check check) {
        PeepholeRules x = fresh();
        rule(x, "v0 not not", "v0");
        int inner = Texts.nodes(x, "a0 not");
        int root = x.addNode(9, inner, 0);
        x.addOutput(root);
        x.addOutput(inner);
        check.due("output 1 uses the inner node", x.optimize(), 0);
        x.clearDag();
        inner = Texts.nodes(x, "a0 not");
        root = x.addNode(9, inner, 0);
        x.addOutput(inner);
        x.addOutput(root);
        check.due("output 0 uses it", x.optimize(), 0);
        x.clearDag();
        inner = Texts.nodes(x, "a0 not");
        root = x.addNode(9, inner, 0);
        x.addOutput(x.addNode(1, root, inner));
        x.addOutput(inner);
        check.due("a node and an output use it", x.optimize(), 0);
        x.clearDag();
        inner = Texts.nodes(x, "a0 not");
        root = x.addNode(9, inner, 0);
        x.addOutput(x.addNode(1, root, inner));
        check.due("another node uses it", x.optimize(), 0);
        x.clearDag();
        root = Texts.nodes(x, "a0 not not");
        x.addOutput(x.addNode(1, root, root));
        x.addOutput(root);
        check.due("the root may be used often", x.optimize(), 1);
        check.due("output 0", Texts.shape(x, 0), "a0 a0 add");
        check.due("output 1", Texts.shape(x, 1), "a0");
        PeepholeRules y = fresh();
        rule(y, "v0 not v1 not and", "v0 v1 or not");
        int once = Texts.nodes(y, "a0 not");
        y.addOutput(y.addNode(4, once, once));
        check.due("both slots of one node are two uses", y.optimize(), 0);
        PeepholeRules z = fresh();
        rule(z, "v0 3 add 3 sub", "v0");
        int three = Texts.nodes(z, "3");
        int sum = z.addNode(1, z.addNode(12, 0, 0), three);
        z.addOutput(z.addNode(2, sum, three));
        z.addOutput(three);
        check.due("leaves may be used often", z.optimize(), 1);
    }

    private static void usesOfDeadNodesDoNotCount(Check check) {
        PeepholeRules x = fresh();
        rule(x, "v0 not not", "v0");
        int inner = Texts.nodes(x, "a0 not");
        int root = x.addNode(9, inner, 0);
        x.addNode(10, inner, 0);
        x.addOutput(root);
        check.due("a dead node's slot is no use", x.optimize(), 1);
        // Taking a0 & 0 away leaves the shared NOT with a single use.
        PeepholeRules y = fresh();
        rule(y, "v0 not not", "v0");
        rule(y, "v0 0 and", "0");
        inner = Texts.nodes(y, "a0 not");
        y.addOutput(y.addNode(9, inner, 0));
        y.addOutput(y.addNode(4, inner, y.addNode(11, 0, 0)));
        check.due("uses are counted anew", y.optimize(), 2);
        check.due("output 0", Texts.shape(y, 0), "a0");
    }

    private static void preconditionIsAsked(Check check) {
        PeepholeRules x = fresh();
        if (Texts.commitIf(x, Texts.pre(4, 1, 8), "v0 k1 shl", "0") != 0) {
            throw new IllegalStateException();
        }
        if (Texts.commitIf(x, Texts.pre(1, 0, 0), "v1 k0 add", "v1") != 0) {
            throw new IllegalStateException();
        }
        Texts.output(x, "a0 7 shl");
        Texts.output(x, "a0 8 shl");
        Texts.output(x, "a0 1 add");
        Texts.output(x, "a0 0 add");
        check.due("two of four", x.optimize(), 2);
        check.due("7", Texts.shape(x, 0), "a0 7 shl");
        check.due("8", Texts.shape(x, 1), "0");
        check.due("1", Texts.shape(x, 2), "a0 1 add");
        check.due("0", Texts.shape(x, 3), "a0");
    }

    // Adds a chain that no rule here matches, so that the given count of nodes is live.
    private static void fill(PeepholeRules x, int live) {
        int n = x.addNode(12, 3, 0);
        while (x.stat(8) < live) {
            n = x.addNode(10, n, 0);
        }
        x.addOutput(n);
    }

    private static int applicationsWith(int live, String pattern, String replacement, String expression) {
        PeepholeRules x = new PeepholeRules(20, 4);
        rule(x, pattern, replacement);
        Texts.output(x, expression);
        fill(x, live);
        if (x.stat(0) != live) {
            throw new IllegalStateException();
        }
        return x.optimize();
    }

    private static void room(Check check) {
        String[][] rules = {
            // Each VAR leaf counts, and each operation: 3 for v0 v0 add.
            {"3", "v0 2 mul", "v0 v0 add", "a0 2 mul"},
            {"1", "v0 0 add", "v0", "a0 0 add"},
            // v0, 1, shl, v0, add.
            {"5", "v0 3 mul", "v0 1 shl v0 add", "a0 3 mul"},
            {"2", "v0 not not not", "v0 not", "a0 not not not"}
        };
        for (String[] r : rules) {
            int needed = Integer.parseInt(r[0]);
            check.due(r[1] + " with just enough room", applicationsWith(20 - needed, r[1], r[2], r[3]), 1);
            check.due(r[1] + " with one too few", applicationsWith(21 - needed, r[1], r[2], r[3]), 0);
        }
    }

    private static void roomOfConstants(Check check) {
        String[][] rules = {
            // A single VAR leaf that is constant-valued makes no node and asks for no room.
            {"0", "k0 0 add", "v0", "9 0 add"},
            {"2", "v1 0 add k0 add", "v1 v0 add", "a0 0 add 9 add"},
            // A whole constant-valued subtree is one node.
            {"1", "k0 k1 add", "v0 v1 1 mul 0 add add", "9 8 add"},
            {"3", "v0 1 add k1 add", "v0 v1 1 add add", "a0 1 add 7 add"},
            // Two maximal subtrees, a leaf of a VAR, two operations.
            {"5", "v0 k1 and 2 mul", "v0 v1 not not and 1 shl", "a0 7 and 2 mul"}
        };
        for (String[] r : rules) {
            int needed = Integer.parseInt(r[0]);
            check.due(r[1] + " with just enough room", applicationsWith(20 - needed, r[1], r[2], r[3]), 1);
            if (needed > 0) {
                check.due(r[1] + " with one too few", applicationsWith(21 - needed, r[1], r[2], r[3]), 0);
            }
        }
    }

    // A refused draft whose first node was maximal must not make the next one's first node maximal.
    private static void refusedDraftAsksForNoRoom(Check check) {
        PeepholeRules x = new PeepholeRules(8, 4);
        check.due("refused", Texts.commit(x, "v0 v0 add v0 add", "3 v0 add"), 6);
        rule(x, "v0 0 and", "255 not");
        int n = Texts.nodes(x, "a0 0 and");
        while (x.stat(8) < 7) {
            n = x.addNode(10, n, 0);
        }
        x.addOutput(n);
        check.due("room for one node is enough", x.optimize(), 1);
        check.due("one node is built", x.stat(0), 5);
    }

    private static void folding(Check check) {
        PeepholeRules x = fresh();
        rule(x, "v0 k1 add 1 add", "v0 v1 1 add add");
        Texts.output(x, "a0 255 add 1 add");
        check.due("one application", x.optimize(), 1);
        check.due("folded with wrap-around", Texts.shape(x, 0), "a0 0 add");
        check.due("live", x.stat(0), 3);
        PeepholeRules y = fresh();
        rule(y, "k0 k1 mul 1 add", "v0 v1 mul 1 add");
        Texts.output(y, "16 17 mul 1 add");
        check.due("another application", y.optimize(), 1);
        check.due("the root is folded", Texts.shape(y, 0), "17");
        check.due("live", y.stat(0), 1);
        PeepholeRules z = fresh();
        rule(z, "k0 v1 add 1 add", "v0 1 add v1 add");
        Texts.output(z, "9 a0 add 1 add");
        check.due("a third application", z.optimize(), 1);
        check.due("operand A is folded", Texts.shape(z, 0), "10 a0 add");
    }

    private static void bindingsAreShared(Check check) {
        PeepholeRules x = fresh();
        rule(x, "v0 2 mul", "v0 v0 add");
        Texts.output(x, "a0 not 2 mul");
        x.optimize();
        check.due("a VAR is its binding, not a copy", x.stat(0), 3);
        check.due("cost", x.stat(1), 2);
        PeepholeRules y = fresh();
        rule(y, "v0 k1 add k1 add 0 or", "v0 v1 add v1 add");
        int c = y.addNode(11, 6, 0);
        int sum = y.addNode(1, y.addNode(1, y.addNode(12, 0, 0), c), c);
        y.addOutput(y.addNode(5, sum, y.addNode(11, 0, 0)));
        check.due("one application", y.optimize(), 1);
        check.due("a lone CVAR is its binding", y.countOp(11), 1);
        check.due("live", y.stat(0), 4);
        PeepholeRules z = fresh();
        rule(z, "k0 1 add 1 sub", "v0");
        int seven = z.addNode(11, 7, 0);
        int one = z.addNode(11, 1, 0);
        z.addOutput(z.addNode(2, z.addNode(1, seven, one), one));
        z.addOutput(seven);
        z.optimize();
        check.due("the root becomes the binding", z.stat(0), 1);
        PeepholeRules w = fresh();
        rule(w, "k0 not 0 add", "v0 not");
        Texts.output(w, "7 not 0 add");
        w.optimize();
        check.due("folded to one new node", Texts.shape(w, 0), "248");
        check.due("live", w.stat(0), 1);
    }

    private static void everyReferenceIsRedirected(Check check) {
        PeepholeRules x = fresh();
        rule(x, "v0 0 add", "v0");
        int root = Texts.nodes(x, "a1 0 add");
        int twice = x.addNode(3, root, root);
        x.addOutput(root);
        x.addOutput(x.addNode(9, root, 0));
        x.addOutput(twice);
        x.addOutput(root);
        check.due("one application", x.optimize(), 1);
        check.due("output 0", Texts.shape(x, 0), "a1");
        check.due("output 1", Texts.shape(x, 1), "a1 not");
        check.due("output 2", Texts.shape(x, 2), "a1 a1 mul");
        check.due("output 3", Texts.shape(x, 3), "a1");
        check.due("live", x.stat(0), 3);
    }

    private static void childrenFirst(Check check) {
        PeepholeRules x = fresh();
        rule(x, "v0 0 add not", "v0 not");
        rule(x, "v0 0 add", "v0");
        Texts.output(x, "a0 0 add not");
        check.due("one application", x.optimize(), 1);
        check.due("not at the parent", x.ruleUses(0), 0);
        check.due("at the child", x.ruleUses(1), 1);
        PeepholeRules y = fresh();
        rule(y, "v1 v0 0 add sub", "v1 v0 sub");
        rule(y, "v0 0 add", "v0");
        Texts.output(y, "a1 a0 0 add sub");
        y.optimize();
        check.due("not at B's parent", y.ruleUses(0), 0);
    }

    // v0 * 3 grows the DAG by a node, so with room for one application alone, the first visited has it.
    private static PeepholeRules roomForOne() {
        PeepholeRules x = new PeepholeRules(12, 4);
        rule(x, "v0 3 mul", "v0 1 shl v0 add");
        return x;
    }

    private static void operandAFirst(Check check) {
        PeepholeRules x = roomForOne();
        Texts.output(x, "a0 3 mul a1 3 mul add");
        check.due("room for one", x.optimize(), 1);
        check.due("it is operand A's", Texts.shape(x, 0), "a0 1 shl a0 add a1 3 mul add");
        PeepholeRules y = roomForOne();
        int b = Texts.nodes(y, "a1 3 mul");
        int a = Texts.nodes(y, "a0 3 mul");
        y.addOutput(y.addNode(1, a, b));
        y.optimize();
        check.due("not the lower number's", Texts.shape(y, 0), "a0 1 shl a0 add a1 3 mul add");
    }

    private static void outputsInTurn(Check check) {
        PeepholeRules x = new PeepholeRules(11, 4);
        rule(x, "v0 3 mul", "v0 1 shl v0 add");
        int low = Texts.nodes(x, "a1 3 mul");
        int high = Texts.nodes(x, "a0 3 mul");
        x.addOutput(high);
        x.addOutput(low);
        check.due("room for one", x.optimize(), 1);
        check.due("it is output 0's", Texts.shape(x, 0), "a0 1 shl a0 add");
        check.due("not output 1's", Texts.shape(x, 1), "a1 3 mul");
    }

    private static void rulesInTurn(Check check) {
        PeepholeRules x = fresh();
        rule(x, "v0 1 mul", "v0");
        rule(x, "v0 k1 mul 0 add", "v0 v1 mul");
        rule(x, "v1 1 mul", "v1");
        Texts.output(x, "a0 1 mul a1 1 mul add");
        check.due("two applications", x.optimize(), 2);
        check.due("the lower rule has both", x.ruleUses(0), 2);
        check.due("the later equal one none", x.ruleUses(2), 0);
        PeepholeRules y = fresh();
        rule(y, "v0 v1 and 0 and", "0");
        rule(y, "v0 0 and", "0");
        Texts.output(y, "a0 a1 and 0 and");
        y.optimize();
        check.due("the first that matches", y.ruleUses(0), 1);
        check.due("not the shorter one", y.ruleUses(1), 0);
    }

    // Output 1's rewriting leaves a0 + 0 with one use, so the new search rewrites output 0,
    // and that takes the room that output 2 would need.
    private static void searchStartsAgain(Check check) {
        PeepholeRules x = new PeepholeRules(15, 4);
        rule(x, "v0 0 add 3 mul", "v0 1 shl v0 add");
        rule(x, "v0 0 and", "0");
        int zero = x.addNode(11, 0, 0);
        int three = x.addNode(11, 3, 0);
        int sum0 = x.addNode(1, x.addNode(12, 0, 0), zero);
        int sum1 = x.addNode(1, x.addNode(12, 1, 0), zero);
        x.addOutput(x.addNode(3, sum0, three));
        x.addOutput(x.addNode(4, sum0, zero));
        x.addOutput(x.addNode(3, sum1, three));
        x.addOutput(x.addNode(5, zero, three));
        check.due("two applications", x.optimize(), 2);
        check.due("output 0", Texts.shape(x, 0), "a0 1 shl a0 add");
        check.due("output 1", Texts.shape(x, 1), "0");
        check.due("output 2", Texts.shape(x, 2), "a1 0 add 3 mul");
    }

    private static void secondOptimize(Check check) {
        PeepholeRules x = fresh();
        rule(x, "v0 not not", "v0");
        Texts.output(x, "a0 not not 0 add");
        check.due("first", x.optimize(), 1);
        check.due("nothing left", x.optimize(), 0);
        rule(x, "v0 0 add", "v0");
        check.due("a new rule", x.optimize(), 1);
        check.due("applications in all", x.stat(3), 2);
        check.due("original cost is kept", x.stat(2), 3);
        check.due("cost", x.stat(1), 0);
        check.due("original value", x.eval(0, 41, true), 41);
        check.due("nothing left again", x.optimize(), 0);
        check.due("uses", x.ruleUses(0), 1);
    }

    private static void manyDeadNodes(Check check) {
        PeepholeRules x = fresh();
        rule(x, "v0 2 mul", "v0 v0 add");
        while (x.stat(8) < 29) {
            x.addNode(12, 0, 0);
        }
        Texts.output(x, "a1 2 mul");
        check.due("dead nodes take no room", x.optimize(), 1);
        check.due("shape", Texts.shape(x, 0), "a1 a1 add");
    }

    private static void manyApplications(Check check) {
        PeepholeRules x = fresh();
        rule(x, "v0 neg neg not", "v0 not");
        int n = x.addNode(12, 0, 0);
        for (int i = 0; i < 9; i++) {
            n = x.addNode(9, x.addNode(10, x.addNode(10, n, 0), 0), 0);
        }
        x.addOutput(n);
        check.due("28 live nodes", x.stat(0), 28);
        check.due("nine applications", x.optimize(), 9);
        check.due("10 live nodes", x.stat(0), 10);
        check.due("ninth operand", x.nodeAt(0, 0, 8), 9 * 256);
        check.due("value", x.eval(0, 7, false), 248);
        check.due("original value", x.eval(0, 7, true), 248);
    }

    private static void lastNode(Check check) {
        PeepholeRules x = fresh();
        rule(x, "k0 k1 add", "v0 v1 add");
        int n = Texts.nodes(x, "30 12 add");
        while (x.stat(8) < 31) {
            n = x.addNode(9, n, 0);
        }
        x.addOutput(n);
        check.due("the last of 32 nodes is used", x.optimize(), 1);
        check.due("value", x.eval(0, 0, false), 42);
        check.due("original value", x.eval(0, 0, true), 42);
        check.due("original cost", x.stat(2), 29);
        check.due("live", x.stat(0), 29);
    }

    private static void nodesBuiltEarlierAreRewritten(Check check) {
        PeepholeRules x = fresh();
        rule(x, "0 v0 add", "v0");
        rule(x, "v0 neg neg not", "v0 not");
        Texts.output(x, "0 a0 0 sub add neg neg not");
        check.due("first", x.optimize(), 2);
        check.due("a NOT is built", Texts.shape(x, 0), "a0 0 sub not");
        rule(x, "v0 0 sub", "v0");
        check.due("second", x.optimize(), 1);
        check.due("its operand is redirected", Texts.shape(x, 0), "a0 not");
    }

    private static void nothingElseChanges(Check check) {
        PeepholeRules x = fresh();
        rule(x, "v0 not not", "v0");
        Texts.commit(x, "v0 not", "v0");
        Texts.pattern(x, "v0 neg neg");
        x.rulePre(0, 0, 0);
        Texts.output(x, "a0 not not");
        x.optimize();
        check.due("rules", x.stat(4), 1);
        check.due("counterexample", x.stat(5), 0);
        check.due("outputs", x.stat(6), 1);
        Texts.replacement(x, "v0");
        check.due("the draft stays", x.ruleCommit(), 0);
    }
}
