final class Promise09ClearDagTest {
    public static void main(String[] args) {
        Check check = new Check();
        inBuilding(check);
        inOptimized(check);
        rulesStay(check);
        draftStays(check);
        nothingIsLeftOver(check);
        check.finish();
    }

    private static void dueEmpty(Check check, PeepholeRules x) {
        int[] empty = {0, 1, 2, 3, 6, 7, 8};
        for (int which : empty) {
            check.due("stat " + which, x.stat(which), 0);
        }
        for (int op = 1; op <= 12; op++) {
            check.due("countOp " + op, x.countOp(op), 0);
        }
        check.due("eval", x.eval(0, 0, false), -1);
        check.due("eval of the original", x.eval(0, 0, true), -1);
        check.due("nodeAt", x.nodeAt(0, 0, 0), -1);
        check.due("no node to name", x.addOutput(0), -1);
    }

    private static void inBuilding(Check check) {
        PeepholeRules x = new PeepholeRules(8, 8);
        x.clearDag();
        dueEmpty(check, x);
        Texts.output(x, "a0 a1 add not 3 sub");
        x.clearDag();
        dueEmpty(check, x);
        for (int n = 0; n < 8; n++) {
            check.due("numbers start again", x.addNode(12, 0, 0), n);
        }
        check.due("and end again", x.addNode(12, 0, 0), -1);
    }

    private static void inOptimized(Check check) {
        PeepholeRules x = new PeepholeRules(8, 8);
        Texts.commit(x, "v0 not not", "v0");
        Texts.output(x, "a0 not not neg");
        x.optimize();
        check.due("used", x.ruleUses(0), 1);
        x.clearDag();
        dueEmpty(check, x);
        check.due("uses", x.ruleUses(0), 0);
        check.due("next node", x.addNode(11, 3, 0), 0);
        check.due("next output", x.addOutput(0), 0);
        check.due("no original", x.eval(0, 0, true), 3);
        check.due("original cost", x.stat(2), 0);
    }

    private static void rulesStay(Check check) {
        PeepholeRules x = new PeepholeRules(16, 4);
        Texts.commit(x, "v0 not not", "v0");
        Texts.commitIf(x, Texts.pre(4, 1, 8), "v0 k1 shr", "0");
        Texts.commit(x, "v0 neg neg", "v0");
        Texts.commit(x, "v1 1 shl 1 shr", "v1");
        for (int round = 0; round < 3; round++) {
            Texts.output(x, "a0 not not 8 shr");
            Texts.output(x, "a0 7 shr neg neg");
            check.due("applications", x.optimize(), 3);
            check.due("application count", x.stat(3), 3);
            for (int r = 0; r < 3; r++) {
                check.due("uses of " + r, x.ruleUses(r), 1);
            }
            check.due("output 1", Texts.shape(x, 1), "a0 7 shr");
            x.clearDag();
            check.due("rules", x.stat(4), 3);
            check.due("counterexample", x.stat(5), 128 * 256);
            for (int r = 0; r < 3; r++) {
                check.due("uses of " + r + " are gone", x.ruleUses(r), 0);
            }
        }
    }

    private static void draftStays(Check check) {
        PeepholeRules x = new PeepholeRules(16, 4);
        Texts.pattern(x, "v1 k0 add");
        Texts.replacement(x, "v1");
        x.rulePre(1, 0, 0);
        x.clearDag();
        check.due("whole draft", x.ruleCommit(), 0);
        Texts.pattern(x, "v0");
        x.clearDag();
        check.due("pending subtree", x.rulePat(9, 0), true);
    }

    private static void nothingIsLeftOver(Check check) {
        PeepholeRules x = new PeepholeRules(8, 4);
        Texts.commit(x, "v0 0 add", "v0");
        Texts.output(x, "a0 0 add a1 a2 add mul not");
        x.optimize();
        x.clearDag();
        Texts.output(x, "a3");
        check.due("one live node", x.stat(0), 1);
        x.optimize();
        check.due("one node", x.stat(8), 1);
        check.due("original value", x.eval(0, 0x05000000, true), 5);
        check.due("original cost", x.stat(2), 0);
        PeepholeRules y = new PeepholeRules(8, 4);
        Texts.commit(y, "v0 0 add", "v0");
        Texts.output(y, "a3");
        y.optimize();
        check.due("as a new object", Texts.state(x), Texts.state(y));
    }
}
