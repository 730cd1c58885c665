final class Promise01ConstructionTest {
    private static final int LOW = Integer.MIN_VALUE;
    private static final int HIGH = Integer.MAX_VALUE;

    public static void main(String[] args) {
        Check check = new Check();
        nodesAreClamped(check);
        rulesAreClamped(check);
        clampedRoomBindsMatches(check);
        startsEmpty(check);
        objectsAreApart(check);
        check.finish();
    }

    private static void nodesAreClamped(Check check) {
        int[] given = {LOW, -1, 0, 1, 7, 8, 9, 20, 31, 32, 33, 264, HIGH};
        int[] want = {8, 8, 8, 8, 8, 8, 9, 20, 31, 32, 32, 32, 32};
        for (int i = 0; i < given.length; i++) {
            PeepholeRules x = new PeepholeRules(given[i], 4);
            for (int n = 0; n < want[i]; n++) {
                check.due("node of maxNodes " + given[i], x.addNode(12, 0, 0), n);
            }
            check.due("node too many of maxNodes " + given[i], x.addNode(12, 0, 0), -1);
            check.due("nodes of maxNodes " + given[i], x.stat(8), want[i]);
        }
    }

    private static void rulesAreClamped(Check check) {
        int[] given = {LOW, -1, 0, 1, 2, 9, 15, 16, 17, 257, HIGH};
        int[] want = {1, 1, 1, 1, 2, 9, 15, 16, 16, 16, 16};
        for (int i = 0; i < given.length; i++) {
            PeepholeRules x = new PeepholeRules(8, given[i]);
            for (int r = 0; r < want[i]; r++) {
                check.due("rule of maxRules " + given[i], Texts.commit(x, "v0 not not", "v0"), 0);
            }
            check.due("rule too many of maxRules " + given[i], Texts.commit(x, "v0 not not", "v0"), 1);
            check.due("rules of maxRules " + given[i], x.stat(4), want[i]);
        }
    }

    private static void clampedRoomBindsMatches(Check check) {
        // The rule asks for room for 2 nodes; 6 live nodes leave it in 8, 7 do not.
        PeepholeRules fits = new PeepholeRules(-5, 1);
        Texts.commit(fits, "v0 neg neg not", "v0 not");
        Texts.output(fits, "a0 neg neg not not not");
        check.due("6 live nodes of 8", fits.optimize(), 1);
        PeepholeRules full = new PeepholeRules(-5, 1);
        Texts.commit(full, "v0 neg neg not", "v0 not");
        Texts.output(full, "a0 neg neg not not not not");
        check.due("7 live nodes of 8", full.optimize(), 0);
        PeepholeRules large = new PeepholeRules(1000, 1);
        Texts.commit(large, "v0 neg neg not", "v0 not");
        int n = Texts.nodes(large, "a0 neg neg not");
        while (large.stat(8) < 31) {
            n = large.addNode(9, n, 0);
        }
        large.addOutput(n);
        check.due("31 live nodes of 32", large.optimize(), 0);
    }

    private static void startsEmpty(Check check) {
        PeepholeRules x = new PeepholeRules(16, 8);
        for (int which = 0; which <= 8; which++) {
            check.due("stat " + which, x.stat(which), which == 5 ? -1 : 0);
        }
        for (int op = 1; op <= 12; op++) {
            check.due("countOp " + op, x.countOp(op), 0);
        }
        check.due("ruleUses", x.ruleUses(0), -1);
        check.due("eval", x.eval(0, 0, false), -1);
        check.due("eval of the original", x.eval(0, 0, true), -1);
        check.due("nodeAt", x.nodeAt(0, 0, 0), -1);
        check.due("no operand in the pattern", x.rulePat(9, 0), false);
        check.due("no operand in the replacement", x.ruleRep(9, 0), false);
        check.due("empty draft", x.ruleCommit(), 2);
        PeepholeRules y = new PeepholeRules(16, 8);
        check.due("no precondition at the start", Texts.commit(y, "v0 not not", "v0"), 0);
    }

    private static void objectsAreApart(Check check) {
        PeepholeRules x = new PeepholeRules(16, 8);
        PeepholeRules y = new PeepholeRules(16, 8);
        String before = Texts.state(y);
        Texts.commit(x, "v0 not not", "v0");
        Texts.output(x, "a0 not not");
        x.optimize();
        check.due("another object", Texts.state(y), before);
    }
}
