final class Promise12RuleUsesTest {
    public static void main(String[] args) {
        Check check = new Check();
        numbers(check);
        sumsOverOptimizes(check);
        changesNothing(check);
        check.finish();
    }

    private static void numbers(Check check) {
        PeepholeRules x = new PeepholeRules(16, 16);
        check.due("no rule", x.ruleUses(0), -1);
        for (int count = 1; count <= 16; count++) {
            Texts.commit(x, "v0 not not", "v0");
            check.due("the last", x.ruleUses(count - 1), 0);
            check.due("behind the last", x.ruleUses(count), -1);
        }
        for (int r : new int[] {Integer.MIN_VALUE, -1, 16, 17, 256, Integer.MAX_VALUE}) {
            check.due("rule " + r, x.ruleUses(r), -1);
        }
        x.ruleCommit();
        check.due("a refused rule has no number", x.ruleUses(16), -1);
    }

    private static void sumsOverOptimizes(Check check) {
        PeepholeRules x = new PeepholeRules(16, 4);
        Texts.commit(x, "v0 not not", "v0");
        Texts.output(x, "a0 not not neg neg not not");
        x.optimize();
        check.due("two uses", x.ruleUses(0), 2);
        Texts.commit(x, "v0 neg neg", "v0");
        check.due("a new rule has none", x.ruleUses(1), 0);
        x.optimize();
        check.due("the first keeps its uses", x.ruleUses(0), 2);
        check.due("the second has one", x.ruleUses(1), 1);
        check.due("together", x.stat(3), 3);
        x.clearDag();
        check.due("cleared 0", x.ruleUses(0), 0);
        check.due("cleared 1", x.ruleUses(1), 0);
        check.due("still no rule 2", x.ruleUses(2), -1);
    }

    private static void changesNothing(Check check) {
        PeepholeRules x = new PeepholeRules(16, 4);
        Texts.commit(x, "v0 not not", "v0");
        Texts.output(x, "a0 not not");
        x.optimize();
        String before = Texts.state(x);
        x.ruleUses(0);
        x.ruleUses(-1);
        x.ruleUses(4);
        check.due("state", Texts.state(x), before);
    }
}
