import java.io.IOException;
import java.util.function.Consumer;

final class Promise05RuleCommitTest {
    private static final int[] NO_PRE = {0, 0, 0};

    public static void main(String[] args) throws IOException {
        Sentences document = new Sentences("Promise 5");
        document.test("`ruleCommit()` judges the draft rule.", Promise05RuleCommitTest::judges);
        document.test("The first failing test in this order gives the verdict:", Promise05RuleCommitTest::orderOfTests);
        document.test("ERR_FULL: the rule count equals maxRules.", Promise05RuleCommitTest::full);
        document.test("ERR_SHAPE: either tree is empty", Promise05RuleCommitTest::emptyTree);
        document.test("or does not end with exactly 1 pending subtree", Promise05RuleCommitTest::pendingSubtrees);
        document.test("or the pattern root is a leaf", Promise05RuleCommitTest::leafPattern);
        document.test("A replacement root may be a leaf.", Promise05RuleCommitTest::leafReplacement);
        document.test("some j occurs in the pattern both as VAR and as CVAR", Promise05RuleCommitTest::varAndCvar);
        document.test("or the replacement has VAR j where j does not occur in the pattern", Promise05RuleCommitTest::unknownVariable);
        document.test("ERR_PRE: the precondition is not PRE_NONE", Promise05RuleCommitTest::preconditionOfNoCvar);
        document.test("ERR_COST: replacement weight >= pattern weight.", Promise05RuleCommitTest::cost);
        document.test("v0 from 0 to 255 in the outer loop", Promise05RuleCommitTest::outerLoop);
        document.test("v1 from 0 to 255 in the inner loop", Promise05RuleCommitTest::innerLoop);
        document.test("A variable that is not in the pattern takes only the value 0.", Promise05RuleCommitTest::absentVariable);
        document.test("Assignments where the precondition fails are skipped.", Promise05RuleCommitTest::skipped);
        document.test("The check fails at the first assignment", Promise05RuleCommitTest::firstDifference);
        document.test("The counterexample becomes v0 + 256*v1.", Promise05RuleCommitTest::counterexample);
        document.test("the rule becomes rule number (rule count), with use count 0, and the count grows by 1",
            Promise05RuleCommitTest::accepted);
        document.test("On every verdict other than ERR_WRONG the counterexample becomes -1.",
            Promise05RuleCommitTest::counterexampleIsCleared);
        document.test("Every call then empties the draft, as ruleBegin does", Promise05RuleCommitTest::draftIsEmptied);
        document.test("The DAG, outputs, ORIGINAL, phase, application count and other rules do not change",
            Promise05RuleCommitTest::nothingElseChanges);
        document.test("a rule accepted in the OPTIMIZED phase acts only at the next optimize()",
            Promise05RuleCommitTest::actsAtNextOptimize);
        document.finish();
    }

    private static PeepholeRules roomy() {
        return new PeepholeRules(16, 16);
    }

    private static void dueVerdict(Check check, int want, int[] precondition, String pattern, String replacement) {
        int got = Texts.commitIf(roomy(), precondition, pattern, replacement);
        check.due(pattern + " -> " + replacement, got, want);
    }

    private static void dueVerdict(Check check, int want, String pattern, String replacement) {
        dueVerdict(check, want, NO_PRE, pattern, replacement);
    }

    private static void dueCounterexample(Check check, int v0, int v1, int[] precondition, String pattern, String replacement) {
        PeepholeRules x = roomy();
        check.due(pattern + " -> " + replacement, Texts.commitIf(x, precondition, pattern, replacement), 6);
        check.due("counterexample of " + pattern + " -> " + replacement, x.stat(5), v0 + 256 * v1);
    }

    private static void dueCounterexample(Check check, int v0, int v1, String pattern, String replacement) {
        dueCounterexample(check, v0, v1, NO_PRE, pattern, replacement);
    }

    private static void judges(Check check) {
        dueVerdict(check, 0, "v0 2 mul", "v0 v0 add");
        dueVerdict(check, 6, "v0 2 mul", "v0 v0 sub");
        dueVerdict(check, 0, "v0 v1 or v0 v1 and sub", "v0 v1 xor");
        dueVerdict(check, 0, "v0 not 1 add", "v0 neg");
        dueVerdict(check, 0, "v0 8 mul", "v0 3 shl");
        dueVerdict(check, 6, "v0 32 shl not not", "v0");
        check.due("an empty draft", roomy().ruleCommit(), 2);
    }

    private static void orderOfTests(Check check) {
        int[] unfit = Texts.pre(1, 1, 0);
        String[][] failing = {
            {"2", "v0 k0", "v0"}, {"2", "v0 not v0", "v0 not not"}, {"2", "v0 neg v0", "7"}, {"2", "v0 not", "v1 v0"},
            {"3", "v0 k0 add", "v0 v0 add"}, {"3", "v0 k0 add", "7"}, {"3", "v0 not", "v1"}, {"3", "v0 not", "v1 not"},
            {"4", "v0 v1 add", "v0 v1 add"}, {"4", "v0 v1 add", "v0"}, {"4", "v0 not not", "v0"}
        };
        for (String[] draft : failing) {
            dueVerdict(check, Integer.parseInt(draft[0]), unfit, draft[1], draft[2]);
        }
        dueVerdict(check, 5, "v0 v1 add", "v0 v1 or");
        dueVerdict(check, 5, "v0 not", "v0 neg");
        for (String[] draft : failing) {
            PeepholeRules x = new PeepholeRules(16, 1);
            Texts.accept(x, "v0 not not", "v0");
            check.due("full before " + draft[0], Texts.commitIf(x, unfit, draft[1], draft[2]), 1);
            check.due("full before 5", Texts.commit(x, "v0 not", "v0 not"), 1);
            check.due("full before 6", Texts.commit(x, "v0 not", "v0"), 1);
            check.due("full before 0", Texts.commit(x, "v0 not not", "v0"), 1);
            check.due("full before an empty draft", x.ruleCommit(), 1);
        }
    }

    private static void full(Check check) {
        for (int maxRules : new int[] {1, 2, 3, 15, 16}) {
            PeepholeRules x = new PeepholeRules(16, maxRules);
            for (int r = 0; r < maxRules; r++) {
                check.due("a refused draft takes no place", Texts.commit(x, "v0 not", "v0"), 6);
                check.due("rule " + r + " of " + maxRules, States.fullDraft(x).ruleCommit(), 0);
            }
            check.due("one too many", States.fullDraft(x).ruleCommit(), 1);
            check.due("and again", Texts.commit(x, "v0 0 add", "v0"), 1);
            x.clearDag();
            check.due("clearDag makes no room", Texts.commit(x, "v0 0 add", "v0"), 1);
            check.due("count", x.stat(4), maxRules);
            check.due("no such rule", x.ruleUses(maxRules), -1);
            Texts.output(x, "a0 0 add");
            check.due("the refused one does not act", x.optimize(), 0);
        }
    }

    private static void emptyTree(Check check) {
        PeepholeRules x = roomy();
        check.due("both", x.ruleCommit(), 2);
        Texts.pattern(x, "v0 not");
        check.due("replacement", x.ruleCommit(), 2);
        Texts.replacement(x, "v0");
        check.due("pattern", x.ruleCommit(), 2);
        Texts.accept(x, "v0 not not", "v0");
        Texts.pattern(x, "v0 not not");
        check.due("replacement, after a rule that had one", x.ruleCommit(), 2);
        Texts.replacement(x, "v0");
        check.due("pattern, after a rule that had one", x.ruleCommit(), 2);
    }

    private static void pendingSubtrees(Check check) {
        dueVerdict(check, 2, "v0 v0 not", "v0");
        dueVerdict(check, 2, "v0 not v0", "v0");
        dueVerdict(check, 2, "v0 v0 v0 v0 v0 v0 v0 not", "v0");
        dueVerdict(check, 2, "v0 not not", "v0 v0");
        dueVerdict(check, 2, "v0 not not", "7 v0");
        dueVerdict(check, 2, "v0 not not", "v0 v0 v0 v0 v0 v0 v0 v0");
        dueVerdict(check, 2, "v0 v0 not", "v0 v0");
        dueVerdict(check, 0, "v0 not not", "v0");
    }

    private static void leafPattern(Check check) {
        dueVerdict(check, 2, "v0", "v0");
        dueVerdict(check, 2, "v1", "7");
        dueVerdict(check, 2, "k0", "v0");
        dueVerdict(check, 2, "3", "3");
        dueVerdict(check, 0, "3 not", "252");
    }

    private static void leafReplacement(Check check) {
        dueVerdict(check, 0, "v0 not not", "v0");
        dueVerdict(check, 0, "v0 v0 sub", "0");
        dueVerdict(check, 0, "k0 0 or", "v0");
        PeepholeRules x = roomy();
        Texts.accept(x, "v0 v0 sub", "0");
        int n = x.addNode(12, 0, 0);
        x.addOutput(x.addNode(2, n, n));
        x.optimize();
        check.due("it is built", Texts.shape(x, 0), "0");
    }

    private static void varAndCvar(Check check) {
        dueVerdict(check, 3, "v0 k0 add", "7");
        dueVerdict(check, 3, "k0 v0 add", "7");
        dueVerdict(check, 3, "v1 k1 add", "v1");
        dueVerdict(check, 3, "k1 v1 add", "v1");
        dueVerdict(check, 3, "v0 v1 add k1 add", "v0 v1 add");
        dueVerdict(check, 0, "v0 0 add k1 add", "v0 v1 add");
        dueVerdict(check, 0, "k0 0 add v1 add", "v0 v1 add");
    }

    private static void unknownVariable(Check check) {
        dueVerdict(check, 3, "v0 not not", "v1");
        dueVerdict(check, 3, "v1 not not", "v0");
        dueVerdict(check, 3, "k0 0 add", "v1");
        dueVerdict(check, 3, "k1 0 add", "v0");
        dueVerdict(check, 3, "1 2 add", "v0 v0 sub");
        dueVerdict(check, 3, "v0 not not not", "v0 v1 0 and or");
        dueVerdict(check, 3, "v0 1 and 1 or", "v1");
        dueVerdict(check, 0, "k1 0 add", "v1");
        dueVerdict(check, 0, "1 2 add", "3");
        dueVerdict(check, 0, "v0 0 and v1 v1 xor or", "0");
    }

    private static void preconditionOfNoCvar(Check check) {
        for (int rel = 1; rel <= 4; rel++) {
            dueVerdict(check, 4, Texts.pre(rel, 0, 255), "v0 not not", "v0");
            dueVerdict(check, 4, Texts.pre(rel, 1, 0), "k0 0 add", "v0");
            dueVerdict(check, 4, Texts.pre(rel, 0, 0), "v0 k1 add 0 add", "v0 v1 add");
            dueVerdict(check, 4, Texts.pre(rel, 1, 1), "1 not", "254");
            dueVerdict(check, 0, Texts.pre(rel, 1, 0), "v0 k1 add 0 add", "v0 v1 add");
        }
        dueVerdict(check, 0, Texts.pre(0, 1, 0), "v0 not not", "v0");
    }

    private static void cost(Check check) {
        dueVerdict(check, 5, "v0 v1 add", "v1 v0 add");
        dueVerdict(check, 5, "v0 neg", "v0 not 1 add");
        dueVerdict(check, 0, "v0 neg 0 add", "0 v0 sub");
        dueVerdict(check, 0, "v0 3 mul", "v0 v0 add v0 add");
        dueVerdict(check, 5, "v0 3 mul", "v0 v0 add v0 add 0 add");
        dueVerdict(check, 5, "v0 3 mul", "v0 3 mul");
        dueVerdict(check, 0, "v0 v0 add v0 add not not", "v0 3 mul");
        dueVerdict(check, 5, "v0 v0 add v0 add 0 or", "v0 3 mul 0 or");
        dueVerdict(check, 0, "v0 k1 add 1 add", "v0 v1 1 add add");
        dueVerdict(check, 5, "v0 v1 add 1 add", "v0 v1 1 add add");
        dueVerdict(check, 5, "k0 v1 add", "v0 3 add v1 add");
        dueVerdict(check, 0, "k0 not", "v0 not");
    }

    private static void outerLoop(Check check) {
        // Only a shift by 0 leaves the 1.
        dueCounterexample(check, 0, 0, "1 v0 shr", "0");
        dueCounterexample(check, 1, 0, "v0 0 or", "0");
        dueCounterexample(check, 128, 0, "v0 1 shl 1 shr", "v0");
        // Only 255 has the complement 0, which alone leaves the 1.
        dueCounterexample(check, 255, 0, "1 v0 not shr", "0");
        dueCounterexample(check, 255, 0, "1 k0 not shr", "0");
        // The pair 0, 200 comes before the pair 1, 0.
        dueCounterexample(check, 0, 200, "v0 1 v1 200 xor shr or", "0");
        dueVerdict(check, 0, "v0 255 and", "v0");
    }

    private static void innerLoop(Check check) {
        dueCounterexample(check, 0, 0, "1 v1 shr", "0");
        dueCounterexample(check, 0, 1, "v0 v1 or", "v0");
        dueCounterexample(check, 0, 1, "v1 0 or", "0");
        dueCounterexample(check, 0, 255, "1 v1 not shr", "0");
        dueCounterexample(check, 0, 255, "1 k1 not shr", "0");
        dueCounterexample(check, 255, 255, "1 v0 v1 and not shr", "0");
        dueCounterexample(check, 128, 128, "v0 v1 and 128 and", "0");
        dueVerdict(check, 0, "v1 255 and", "v1");
    }

    private static void absentVariable(Check check) {
        dueCounterexample(check, 0, 128, "v1 1 shl 1 shr", "v1");
        dueCounterexample(check, 128, 0, "v0 1 shl 1 shr", "v0");
        dueCounterexample(check, 0, 0, "2 3 add", "6");
        dueCounterexample(check, 0, 7, Texts.pre(4, 1, 7), "k1 0 add", "0");
        dueCounterexample(check, 7, 0, Texts.pre(4, 0, 7), "k0 0 add", "0");
        dueVerdict(check, 0, "2 3 add", "5");
    }

    private static void skipped(Check check) {
        dueCounterexample(check, 1, 1, Texts.pre(2, 0, 0), "k0 v1 and", "0");
        dueCounterexample(check, 1, 9, Texts.pre(4, 1, 9), "v0 k1 and", "0");
        dueCounterexample(check, 0, 254, Texts.pre(1, 1, 254), "k1 0 add", "v1 not not 1 add");
        dueVerdict(check, 0, Texts.pre(4, 0, 255), "k0 v1 add 255 sub", "v1 0 or");
        dueVerdict(check, 6, Texts.pre(4, 0, 254), "k0 v1 add 255 sub", "v1 0 or");
        dueVerdict(check, 0, Texts.pre(3, 0, 1), "k0 v1 add", "v1");
        dueVerdict(check, 6, Texts.pre(3, 0, 2), "k0 v1 add", "v1");
        // No value is below 0, so nothing is left to be wrong.
        dueVerdict(check, 0, Texts.pre(3, 0, 0), "v1 k0 add", "7");
    }

    private static void firstDifference(Check check) {
        dueCounterexample(check, 0, 0, "v0 v1 add", "1");
        dueCounterexample(check, 0, 2, "v0 v1 add 0 add", "v1 1 and");
        dueCounterexample(check, 4, 0, "v0 4 and", "0");
        dueCounterexample(check, 2, 0, "v0 v0 mul", "v0 15 and");
    }

    private static void counterexample(Check check) {
        dueCounterexample(check, 255, 255, "1 v0 v1 and not shr", "0");
        dueCounterexample(check, 2, 2, Texts.pre(1, 1, 2), "v0 k1 add 0 add", "v0 2 or");
        dueCounterexample(check, 255, 1, Texts.pre(1, 0, 255), "k0 v1 add", "255");
        PeepholeRules x = roomy();
        Texts.commit(x, "v0 neg", "v0");
        Texts.commit(x, "v1 neg", "v1");
        check.due("a later one takes its place", x.stat(5), 256);
    }

    private static void accepted(Check check) {
        PeepholeRules x = roomy();
        String[] patterns = {"v0 not not", "v0 neg neg", "v0 0 add", "v0 0 or"};
        for (int r = 0; r < patterns.length; r++) {
            check.due("not yet a number", x.ruleUses(r), -1);
            check.due("verdict", Texts.commit(x, patterns[r], "v0"), 0);
            check.due("count", x.stat(4), r + 1);
            check.due("uses", x.ruleUses(r), 0);
        }
        for (int r = 0; r < patterns.length; r++) {
            x.clearDag();
            Texts.output(x, patterns[r].replace("v0", "a1"));
            check.due("acts", x.optimize(), 1);
            for (int other = 0; other < patterns.length; other++) {
                check.due(patterns[r] + ", uses of " + other, x.ruleUses(other), other == r ? 1 : 0);
            }
        }
        // A number gets a use count of 0 also where a refused draft stood before.
        Texts.commit(x, "v0 not", "v0");
        Texts.accept(x, "v0 0 xor", "v0");
        check.due("after a refused draft", x.ruleUses(4), 0);
    }

    private static int commitFor(PeepholeRules x, int verdict) {
        switch (verdict) {
            case 2:
                return x.ruleCommit();
            case 3:
                return Texts.commit(x, "v0 not", "v1");
            case 4:
                return Texts.commitIf(x, Texts.pre(1, 0, 0), "v0 not", "v0");
            case 5:
                return Texts.commit(x, "v0 not", "v0 not");
            case 6:
                return Texts.commit(x, "v1 neg", "v1");
            default:
                return Texts.commit(x, "v0 not not", "v0");
        }
    }

    private static void counterexampleIsCleared(Check check) {
        for (int want : new int[] {0, 2, 3, 4, 5}) {
            PeepholeRules x = roomy();
            Texts.commit(x, "v0 not", "v0");
            check.due("before verdict " + want, x.stat(5), 0);
            check.due("verdict", commitFor(x, want), want);
            check.due("after verdict " + want, x.stat(5), -1);
            check.due("the same verdict again", commitFor(x, want), want);
            check.due("it stays", x.stat(5), -1);
        }
        // Where there is room for one rule, ERR_FULL can't follow ERR_WRONG: the rule between them clears it.
        PeepholeRules y = new PeepholeRules(16, 1);
        Texts.commit(y, "v0 not", "v0");
        Texts.accept(y, "v0 not not", "v0");
        check.due("ERR_FULL", Texts.commit(y, "v0 not", "v0"), 1);
        check.due("after ERR_FULL", y.stat(5), -1);
    }

    private static PeepholeRules committed(int verdict, PeepholeRules x) {
        commitFor(x, verdict);
        return x;
    }

    private static void draftIsEmptied(Check check) {
        for (int verdict : new int[] {0, 2, 3, 4, 5, 6}) {
            check.due("trees after " + verdict, States.trees(() -> committed(verdict, roomy())), States.EMPTY_TREES);
            check.due("verdict after " + verdict, committed(verdict, roomy()).ruleCommit(), 2);
        }
        String[][] drafts = {
            {"2", "k0 k0", "v0"}, {"3", "k0 not", "v1"}, {"4", "v0 not", "v0"}, {"5", "k0 v1 add", "v1 neg"},
            {"6", "k0 not", "v0"}, {"0", "k0 not", "252"}
        };
        for (String[] draft : drafts) {
            PeepholeRules x = roomy();
            int verdict = Texts.commitIf(x, Texts.pre(1, 0, 3), draft[1], draft[2]);
            check.due("verdict of " + draft[1], verdict, Integer.parseInt(draft[0]));
            check.due("no precondition after " + verdict, Texts.commit(x, "v0 neg neg", "v0"), 0);
        }
        nothingOfALongerDraft(check);
        check.due("trees after 1", States.trees(() -> committed(0, States.drafted(States.full()))), States.EMPTY_TREES);
        check.due("trees after half a draft",
            States.trees(() -> committed(2, States.halfDrafted(roomy()))), States.EMPTY_TREES);
        check.due("trees after a full draft",
            States.trees(() -> committed(2, States.fullDraft(roomy()))), States.EMPTY_TREES);
    }

    private static void nothingOfALongerDraft(Check check) {
        PeepholeRules x = roomy();
        check.due("a longer draft", Texts.commit(x, "v0 v0 v1 add add", "v0 v1 add v0 add"), 5);
        check.due("its variables are gone", Texts.commit(x, "v0 not", "v1"), 3);
        check.due("a dearer draft", Texts.commit(x, "v0 not not", "v0 not not"), 5);
        check.due("its weight is gone", Texts.commit(x, "v0 not", "v0 not"), 5);
        check.due("a longer replacement", Texts.commit(x, "v0 not", "v0 not not"), 5);
        check.due("its weight is gone too", Texts.commit(x, "v0 not not", "v0"), 0);
        check.due("a longer folded replacement", Texts.commit(x, "v0 v0 xor", "7 not not"), 6);
        Texts.accept(x, "v0 0 and", "255 not");
        Texts.output(x, "a0 0 and");
        x.optimize();
        check.due("its marks are gone", Texts.shape(x, 0), "0");
    }

    private static void nothingElseChanges(Check check) {
        for (int verdict : new int[] {2, 3, 4, 5, 6}) {
            // The verdict 6 leaves the counterexample that stands in these states already.
            Consumer<PeepholeRules> call = x -> {
                commitFor(x, verdict);
                commitFor(x, 6);
            };
            States.dueUnchanged(check, "BUILDING, verdict " + verdict, States::built, call);
            States.dueUnchanged(check, "OPTIMIZED, verdict " + verdict, States::optimized, call);
            States.dueUnchanged(check, "cleared, verdict " + verdict, States::cleared, call);
        }
        States.dueUnchanged(check, "full", States::full, x -> Texts.commitIf(x, Texts.pre(1, 0, 3), "k0 not", "252"));
        PeepholeRules x = States.optimized();
        String shape = Texts.shape(x, 0) + ", " + Texts.shape(x, 1);
        check.due("verdict", Texts.commit(x, "v0 v1 add 0 add", "v0 v1 add"), 0);
        check.due("shapes", Texts.shape(x, 0) + ", " + Texts.shape(x, 1), shape);
        check.due("phase", x.stat(7), 1);
        check.due("applications", x.stat(3), 2);
        check.due("outputs", x.stat(6), 2);
        check.due("cost", x.stat(1), 1);
        check.due("original cost", x.stat(2), 4);
        check.due("uses of rule 0", x.ruleUses(0), 1);
        check.due("uses of rule 1", x.ruleUses(1), 1);
        PeepholeRules y = States.built();
        Texts.accept(y, "v0 0 add", "v0");
        check.due("phase of a DAG being built", y.stat(7), 0);
        check.due("its nodes", y.stat(8), 11);
        check.due("the other rules act", y.optimize(), 2);
    }

    private static void actsAtNextOptimize(Check check) {
        PeepholeRules x = roomy();
        Texts.output(x, "a0 not not");
        check.due("no rule yet", x.optimize(), 0);
        Texts.accept(x, "v0 not not", "v0");
        check.due("not applied by itself", Texts.shape(x, 0), "a0 not not");
        check.due("nor counted", x.stat(3), 0);
        check.due("applied at the next optimize", x.optimize(), 1);
        check.due("shape", Texts.shape(x, 0), "a0");
        check.due("uses", x.ruleUses(0), 1);
    }
}
