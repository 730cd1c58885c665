import java.io.IOException;

final class Promise12RuleUsesTest {
    public static void main(String[] args) throws IOException {
        Sentences document = new Sentences("Promise 12");
        document.test("answers the applications of rule r since the start or the last clearDag", Promise12RuleUsesTest::uses);
        document.test("or -1 if r is not a rule number (not in 0..rule count-1)", Promise12RuleUsesTest::numbers);
        document.test("It changes nothing.", Promise12RuleUsesTest::changesNothing);
        document.finish();
    }

    private static void uses(Check check) {
        PeepholeRules x = States.fresh();
        Texts.accept(x, "v0 not not", "v0");
        Texts.output(x, "a0 not not neg neg not not");
        check.due("before", x.ruleUses(0), 0);
        x.optimize();
        check.due("two uses", x.ruleUses(0), 2);
        Texts.accept(x, "v0 neg neg", "v0");
        check.due("a new rule has none", x.ruleUses(1), 0);
        x.optimize();
        check.due("the first keeps its uses", x.ruleUses(0), 2);
        check.due("the second has one", x.ruleUses(1), 1);
        x.clearDag();
        check.due("cleared 0", x.ruleUses(0), 0);
        check.due("cleared 1", x.ruleUses(1), 0);
        Texts.output(x, "a0 neg neg");
        x.optimize();
        check.due("since clearDag 0", x.ruleUses(0), 0);
        check.due("since clearDag 1", x.ruleUses(1), 1);
    }

    private static void numbers(Check check) {
        PeepholeRules x = new PeepholeRules(16, 16);
        int[] never = {Integer.MIN_VALUE, -256, -16, -1, 16, 17, 32, 256, Integer.MAX_VALUE};
        for (int count = 0; count <= 16; count++) {
            for (int r = 0; r < 16; r++) {
                check.due("rule " + r + " of " + count, x.ruleUses(r), r < count ? 0 : -1);
            }
            for (int r : never) {
                check.due("rule " + r + " of " + count, x.ruleUses(r), -1);
            }
            Texts.commit(x, "v0 not not", "v0");
        }
        PeepholeRules y = States.fresh();
        Texts.commit(y, "v0 not", "v0");
        check.due("a refused rule has no number", y.ruleUses(0), -1);
        Texts.pattern(y, "v0 not not");
        Texts.replacement(y, "v0");
        check.due("nor has a draft", y.ruleUses(0), -1);
        check.due("behind a full list of rules", States.full().ruleUses(1), -1);
        check.due("OPTIMIZED", States.optimized().ruleUses(2), -1);
    }

    private static void changesNothing(Check check) {
        States.dueUnchangedInAll(check, "ruleUses", x -> {
            for (int r = -1; r <= 17; r++) {
                x.ruleUses(r);
            }
        });
    }
}
