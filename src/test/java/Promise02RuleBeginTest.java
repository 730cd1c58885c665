import java.io.IOException;

final class Promise02RuleBeginTest {
    public static void main(String[] args) throws IOException {
        Sentences document = new Sentences("Promise 2");
        document.test("the pattern and the replacement become empty with nothing pending",
            Promise02RuleBeginTest::treesBecomeEmpty);
        document.test("and the precondition is set to PRE_NONE", Promise02RuleBeginTest::preconditionIsCleared);
        document.test("It always succeeds.", Promise02RuleBeginTest::alwaysSucceeds);
        document.test("Accepted rules, their use counts", Promise02RuleBeginTest::nothingElseChanges);
        document.finish();
    }

    private static PeepholeRules begun(PeepholeRules x) {
        x.ruleBegin();
        return x;
    }

    private static void treesBecomeEmpty(Check check) {
        check.due("after half a draft",
            States.trees(() -> begun(States.halfDrafted(States.fresh()))), States.EMPTY_TREES);
        check.due("after a full draft",
            States.trees(() -> begun(States.fullDraft(States.fresh()))), States.EMPTY_TREES);
        PeepholeRules x = States.fresh();
        Texts.pattern(x, "v0 v1 add");
        x.ruleBegin();
        Texts.replacement(x, "v0");
        check.due("the pattern is empty", x.ruleCommit(), 2);
        Texts.replacement(x, "v0");
        x.ruleBegin();
        Texts.pattern(x, "v0 v0 and");
        check.due("the replacement is empty", x.ruleCommit(), 2);
    }

    private static void preconditionIsCleared(Check check) {
        PeepholeRules x = States.fresh();
        x.rulePre(1, 0, 5);
        x.ruleBegin();
        check.due("no CVAR is asked for", Texts.commit(x, "v0 not not", "v0"), 0);
        x.rulePre(1, 0, 0);
        x.ruleBegin();
        check.due("all values are checked", Texts.commit(x, "v1 k0 add", "v1"), 6);
        check.due("counterexample", x.stat(5), 1);
    }

    private static void alwaysSucceeds(Check check) {
        States.all().forEach((name, made) -> {
            check.due(name, States.trees(() -> begun(made.get())), States.EMPTY_TREES);
            check.due(name + ", again", States.trees(() -> begun(begun(made.get()))), States.EMPTY_TREES);
        });
        PeepholeRules x = States.full();
        States.drafted(x);
        x.ruleBegin();
        check.due("an emptied draft behind a full list of rules", x.ruleCommit(), 1);
    }

    private static void nothingElseChanges(Check check) {
        States.dueSame(check, "BUILDING", () -> begun(States.drafted(States.built())), States::built);
        States.dueSame(check, "OPTIMIZED", () -> begun(States.drafted(States.optimized())), States::optimized);
        States.dueSame(check, "cleared", () -> begun(States.halfDrafted(States.cleared())), States::cleared);
        States.dueSame(check, "full", () -> begun(States.fullDraft(States.full())), States::full);
        PeepholeRules x = begun(States.optimized());
        check.due("rules", x.stat(4), 2);
        check.due("counterexample", x.stat(5), 256);
        check.due("uses", x.ruleUses(0), 1);
        check.due("applications", x.stat(3), 2);
        check.due("original cost", x.stat(2), 4);
        check.due("phase", x.stat(7), 1);
        check.due("outputs", x.stat(6), 2);
    }
}
