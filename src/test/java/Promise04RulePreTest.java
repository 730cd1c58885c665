import java.io.IOException;

final class Promise04RulePreTest {
    private static final int LOW = Integer.MIN_VALUE;
    private static final int HIGH = Integer.MAX_VALUE;
    private static final int[] BAD_RELATIONS = {LOW, -256, -4, -1, 5, 6, 8, 256, 257, 260, HIGH};
    private static final int[] BAD_VARIABLES = {LOW, -256, -1, 2, 3, 256, 257, HIGH};
    private static final int[] BAD_CONSTANTS = {LOW, -256, -255, -1, 256, 257, 511, HIGH};

    public static void main(String[] args) throws IOException {
        Sentences document = new Sentences("Promise 4");
        document.test("the value of variable j relates to k by rel", Promise04RulePreTest::relations);
        document.test("if rel is not in 0..4", Promise04RulePreTest::badRelations);
        document.test("either j is not in 0..1", Promise04RulePreTest::badVariables);
        document.test("or k is not in 0..255", Promise04RulePreTest::badConstants);
        document.test("(false, no change)", Promise04RulePreTest::refusedChangesNothing);
        document.test("rel 0 clears the precondition, whatever j and k are, and answers true.",
            Promise04RulePreTest::zeroClears);
        document.test("Otherwise it answers true.", Promise04RulePreTest::otherwiseTrue);
        document.test("A later call replaces an earlier one", Promise04RulePreTest::laterReplacesEarlier);
        document.test("a refused call leaves the earlier one in place", Promise04RulePreTest::refusedLeavesEarlier);
        document.test("Whether j is a CVAR of the rule is not judged here.", Promise04RulePreTest::notJudgedHere);
        document.test("Nothing else changes.", Promise04RulePreTest::nothingElseChanges);
        document.finish();
    }

    // For v1 + c0 -> v1, the first failing c0 tells which precondition stands; it is right for 0 alone.
    private static int firstFailing(PeepholeRules x) {
        int verdict = Texts.commit(x, "v1 k0 add", "v1");
        return verdict == 6 ? x.stat(5) : -verdict - 1;
    }

    private static String matched(int rel, int j, int k) {
        PeepholeRules x = new PeepholeRules(32, 8);
        Texts.acceptIf(x, Texts.pre(rel, j, k), "k" + j + " not", "0 v" + j + " not or");
        StringBuilder text = new StringBuilder();
        for (int v = 0; v <= 255; v++) {
            x.clearDag();
            Texts.output(x, v + " not");
            text.append(x.optimize());
        }
        return text.toString();
    }

    private static boolean holds(int rel, int v, int k) {
        return rel == 1 && v == k || rel == 2 && v != k || rel == 3 && v < k || rel == 4 && v >= k;
    }

    private static void relations(Check check) {
        for (int rel = 1; rel <= 4; rel++) {
            for (int k : new int[] {0, 1, 2, 127, 128, 254, 255}) {
                int first = -1;
                StringBuilder want = new StringBuilder();
                for (int v = 0; v <= 255; v++) {
                    first = first < 0 && v > 0 && holds(rel, v, k) ? v : first;
                    want.append(holds(rel, v, k) ? 1 : 0);
                }
                PeepholeRules x = States.fresh();
                x.rulePre(rel, 0, k);
                check.due("first checked by " + rel + " " + k, firstFailing(x), first);
                check.due("matched by " + rel + " of 0, " + k, matched(rel, 0, k), want.toString());
                check.due("matched by " + rel + " of 1, " + k, matched(rel, 1, k), want.toString());
            }
        }
        PeepholeRules y = States.fresh();
        check.due("of variable 0, not 1",
            Texts.commitIf(y, Texts.pre(1, 0, 3), "k0 k1 add not", "v1 3 add not"), 0);
        check.due("of variable 1, not 0",
            Texts.commitIf(y, Texts.pre(1, 1, 3), "k0 k1 add not", "v1 3 add not"), 6);
    }

    private static void badRelations(Check check) {
        for (int rel : BAD_RELATIONS) {
            check.due("rel " + rel, States.fresh().rulePre(rel, 0, 0), false);
            check.due("rel " + rel + " with bad j and k", States.fresh().rulePre(rel, -1, 256), false);
        }
    }

    private static void badVariables(Check check) {
        for (int j : BAD_VARIABLES) {
            for (int rel = 0; rel <= 4; rel++) {
                check.due("rel " + rel + " of variable " + j, States.fresh().rulePre(rel, j, 0), rel == 0);
            }
        }
    }

    private static void badConstants(Check check) {
        for (int k : BAD_CONSTANTS) {
            for (int rel = 0; rel <= 4; rel++) {
                check.due("rel " + rel + " to " + k, States.fresh().rulePre(rel, 1, k), rel == 0);
            }
        }
    }

    private static void callBadly(PeepholeRules x) {
        for (int rel : BAD_RELATIONS) {
            x.rulePre(rel, 0, 7);
        }
        for (int rel = 1; rel <= 4; rel++) {
            for (int j : BAD_VARIABLES) {
                x.rulePre(rel, j, 7);
            }
            for (int k : BAD_CONSTANTS) {
                x.rulePre(rel, 0, k);
            }
        }
    }

    private static void refusedChangesNothing(Check check) {
        States.dueUnchangedInAll(check, "refused", Promise04RulePreTest::callBadly);
    }

    private static void zeroClears(Check check) {
        int[] odd = {LOW, -1, 0, 1, 2, 255, 256, HIGH};
        for (int j : odd) {
            for (int k : odd) {
                PeepholeRules x = States.fresh();
                x.rulePre(4, 0, 33);
                check.due("rel 0 with " + j + " and " + k, x.rulePre(0, j, k), true);
                check.due("all are checked", firstFailing(x), 1);
                x.rulePre(1, 1, 4);
                x.rulePre(0, j, k);
                check.due("no CVAR is asked for", Texts.commit(x, "v0 not not", "v0"), 0);
                Texts.output(x, "a0 9 add not not");
                check.due("the rule acts", x.optimize(), 1);
            }
        }
        check.due("with nothing to clear", States.fresh().rulePre(0, 0, 0), true);
    }

    private static void otherwiseTrue(Check check) {
        for (int rel = 0; rel <= 4; rel++) {
            for (int j = 0; j <= 1; j++) {
                for (int k : new int[] {0, 1, 128, 254, 255}) {
                    check.due("rulePre(" + rel + ", " + j + ", " + k + ")", States.fresh().rulePre(rel, j, k), true);
                }
            }
            check.due("OPTIMIZED", States.optimized().rulePre(rel, 0, 0), true);
            check.due("behind a full list of rules", States.full().rulePre(rel, 0, 0), true);
        }
    }

    private static void laterReplacesEarlier(Check check) {
        PeepholeRules x = States.fresh();
        x.rulePre(1, 0, 7);
        x.rulePre(4, 0, 20);
        check.due("the later one", firstFailing(x), 20);
        x.rulePre(4, 0, 20);
        x.rulePre(1, 0, 7);
        check.due("the later one again", firstFailing(x), 7);
        x.rulePre(1, 1, 7);
        x.rulePre(1, 0, 0);
        check.due("another variable's", firstFailing(x), -1);
        x.rulePre(0, 0, 0);
        x.rulePre(4, 0, 30);
        check.due("after clearing", firstFailing(x), 30);
    }

    private static void refusedLeavesEarlier(Check check) {
        PeepholeRules x = States.fresh();
        x.rulePre(4, 0, 33);
        callBadly(x);
        check.due("the accepted one stands", firstFailing(x), 33);
        x.rulePre(0, 0, 0);
        callBadly(x);
        check.due("none stands", firstFailing(x), 1);
    }

    private static void notJudgedHere(Check check) {
        PeepholeRules x = States.fresh();
        check.due("with an empty pattern", x.rulePre(1, 1, 3), true);
        Texts.pattern(x, "v0 not not");
        check.due("with a VAR", x.rulePre(1, 0, 3), true);
        check.due("with no such variable", x.rulePre(1, 1, 3), true);
        Texts.replacement(x, "v0");
        check.due("judged by ruleCommit", x.ruleCommit(), 4);
        x.rulePre(1, 0, 0);
        check.due("before its CVAR is entered", firstFailing(x), -1);
    }

    private static void nothingElseChanges(Check check) {
        States.all().forEach((name, made) -> {
            PeepholeRules x = made.get();
            String before = Texts.state(x);
            x.rulePre(1, 0, 5);
            check.due(name + ", state", Texts.state(x), before);
            check.due(name + ", trees", States.trees(() -> {
                PeepholeRules y = made.get();
                y.rulePre(2, 1, 255);
                return y;
            }), States.trees(made));
        });
        PeepholeRules z = States.fresh();
        Texts.accept(z, "k0 not", "v0 not");
        Texts.output(z, "4 not a0 add");
        z.rulePre(1, 0, 5);
        check.due("the accepted rule has none", z.optimize(), 1);
    }
}
