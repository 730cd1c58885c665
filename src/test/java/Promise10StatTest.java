final class Promise10StatTest {
    public static void main(String[] args) {
        Check check = new Check();
        selectors(check);
        inBuilding(check);
        inOptimized(check);
        weights(check);
        changesNothing(check);
        check.finish();
    }

    private static void selectors(Check check) {
        PeepholeRules x = new PeepholeRules(16, 8);
        Texts.output(x, "a0 not");
        int[] outside = {Integer.MIN_VALUE, -2, -1, 9, 10, 256, 264, Integer.MAX_VALUE};
        for (int which : outside) {
            check.due("stat " + which, x.stat(which), -1);
        }
        x.optimize();
        for (int which : outside) {
            check.due("stat " + which + " OPTIMIZED", x.stat(which), -1);
        }
    }

    private static void dueAll(Check check, String when, PeepholeRules x, int... want) {
        for (int which = 0; which <= 8; which++) {
            check.due(when + ", stat " + which, x.stat(which), want[which]);
        }
    }

    private static void inBuilding(Check check) {
        PeepholeRules x = new PeepholeRules(16, 8);
        int sum = Texts.nodes(x, "a0 a1 add");
        int product = x.addNode(3, sum, sum);
        dueAll(check, "no output", x, 0, 0, 0, 0, 0, -1, 0, 0, 4);
        x.addOutput(sum);
        dueAll(check, "the sum", x, 3, 1, 1, 0, 0, -1, 1, 0, 4);
        x.addOutput(product);
        dueAll(check, "the product", x, 4, 4, 4, 0, 0, -1, 2, 0, 4);
        x.addOutput(sum);
        Texts.commit(x, "v0 not not", "v0");
        Texts.commit(x, "v0 v1 sub", "v0");
        dueAll(check, "rules", x, 4, 4, 4, 0, 1, 256, 3, 0, 4);
    }

    private static void inOptimized(Check check) {
        PeepholeRules x = new PeepholeRules(16, 8);
        Texts.commit(x, "v0 2 mul", "v0 v0 add");
        Texts.nodes(x, "a3 a3 mul");
        Texts.output(x, "a0 2 mul not");
        dueAll(check, "before", x, 4, 4, 4, 0, 1, -1, 1, 0, 7);
        x.optimize();
        dueAll(check, "after", x, 3, 2, 4, 1, 1, -1, 1, 1, 3);
        x.optimize();
        dueAll(check, "again", x, 3, 2, 4, 1, 1, -1, 1, 1, 3);
        x.clearDag();
        dueAll(check, "cleared", x, 0, 0, 0, 0, 1, -1, 0, 0, 0);
        x.optimize();
        dueAll(check, "empty", x, 0, 0, 0, 0, 1, -1, 0, 1, 0);
    }

    private static void weights(Check check) {
        for (int kind = 1; kind <= 12; kind++) {
            PeepholeRules x = new PeepholeRules(16, 8);
            x.addNode(12, 0, 0);
            x.addOutput(x.addNode(kind, 0, 0));
            int want = kind == 3 ? 3 : kind <= 10 ? 1 : 0;
            check.due("live cost of kind " + kind, x.stat(1), want);
            check.due("original cost of kind " + kind, x.stat(2), want);
            x.optimize();
            check.due("optimised cost of kind " + kind, x.stat(1), want);
            check.due("kept cost of kind " + kind, x.stat(2), want);
        }
        PeepholeRules x = new PeepholeRules(32, 8);
        int n = x.addNode(12, 0, 0);
        for (int i = 1; i < 32; i++) {
            n = x.addNode(3, n, n);
        }
        x.addOutput(n);
        check.due("all nodes live", x.stat(0), 32);
        check.due("greatest cost", x.stat(1), 93);
        x.optimize();
        check.due("greatest cost kept", x.stat(2), 93);
        check.due("a deep value", x.eval(0, 255, true), 1);
    }

    private static void changesNothing(Check check) {
        PeepholeRules x = new PeepholeRules(16, 8);
        Texts.commit(x, "v0 not not", "v0");
        Texts.output(x, "a0 not not a1 add");
        Texts.pattern(x, "v0 neg neg");
        for (int round = 0; round < 2; round++) {
            String before = Texts.state(x);
            for (int which = -2; which <= 10; which++) {
                x.stat(which);
            }
            check.due("state", Texts.state(x), before);
            x.optimize();
        }
        Texts.replacement(x, "v0");
        check.due("the draft stays", x.ruleCommit(), 0);
    }
}
