final class Promise02RuleBeginTest {
    public static void main(String[] args) {
        Check check = new Check();
        treesBecomeEmpty(check);
        preconditionIsCleared(check);
        nothingElseChanges(check);
        check.finish();
    }

    private static void treesBecomeEmpty(Check check) {
        PeepholeRules x = new PeepholeRules(16, 8);
        Texts.pattern(x, "v0 v1");
        Texts.replacement(x, "v0 v1");
        x.ruleBegin();
        check.due("nothing pending in the pattern", x.rulePat(9, 0), false);
        check.due("nothing pending in the replacement", x.ruleRep(9, 0), false);
        check.due("both are empty", x.ruleCommit(), 2);
        Texts.pattern(x, "v0 not not not not not not not");
        Texts.replacement(x, "v0 not not not not not not not");
        x.ruleBegin();
        x.ruleBegin();
        check.due("both have room again", Texts.commit(x, "v0 not not not not not not not",
            "0 not not not not not not v0"), 2);
        Texts.pattern(x, "v0 v1 add");
        x.ruleBegin();
        Texts.replacement(x, "v0");
        check.due("the pattern is empty", x.ruleCommit(), 2);
        Texts.replacement(x, "v0");
        x.ruleBegin();
        Texts.pattern(x, "v0 v0 and");
        check.due("the replacement is empty", x.ruleCommit(), 2);
    }

    private static void preconditionIsCleared(Check check) {
        PeepholeRules x = new PeepholeRules(16, 8);
        x.rulePre(1, 0, 5);
        x.ruleBegin();
        check.due("no CVAR is asked for", Texts.commit(x, "v0 not not", "v0"), 0);
        x.rulePre(1, 0, 0);
        x.ruleBegin();
        check.due("all values are checked", Texts.commit(x, "v1 k0 add", "v1"), 6);
        check.due("counterexample", x.stat(5), 1);
    }

    private static void nothingElseChanges(Check check) {
        PeepholeRules x = new PeepholeRules(16, 8);
        Texts.commit(x, "v0 not not", "v0");
        Texts.output(x, "a0 not not a1 add");
        String built = Texts.state(x);
        x.ruleBegin();
        check.due("BUILDING", Texts.state(x), built);
        x.optimize();
        Texts.commit(x, "v0 neg", "v0");
        check.due("a counterexample stands", x.stat(5), 1);
        String optimized = Texts.state(x);
        Texts.pattern(x, "v0 neg neg");
        x.rulePre(2, 1, 7);
        x.ruleBegin();
        check.due("OPTIMIZED", Texts.state(x), optimized);
        x.optimize();
        check.due("the rule still stands", x.ruleUses(0), 1);
    }
}
