final class Promise05RuleCommitTest {
    public static void main(String[] args) {
        Check check = new Check();
        full(check);
        shape(check);
        variables(check);
        precondition(check);
        cost(check);
        wrong(check);
        semantics(check);
        orderOfTests(check);
        counterexampleIsCleared(check);
        draftIsEmptied(check);
        nothingElseChanges(check);
        actsAtNextOptimize(check);
        check.finish();
    }

    private static PeepholeRules fresh() {
        return new PeepholeRules(16, 16);
    }

    private static void full(Check check) {
        PeepholeRules x = new PeepholeRules(16, 2);
        check.due("first", Texts.commit(x, "v0 not not", "v0"), 0);
        check.due("count", x.stat(4), 1);
        check.due("second", Texts.commit(x, "v0 neg neg", "v0"), 0);
        check.due("third", Texts.commit(x, "v0 0 add", "v0"), 1);
        check.due("count stays", x.stat(4), 2);
        check.due("uses of a rule that is not there", x.ruleUses(2), -1);
        Texts.output(x, "a0 0 add not not neg neg");
        check.due("two rules act", x.optimize(), 2);
        check.due("the third does not", Texts.shape(x, 0), "a0 0 add");
        check.due("an empty draft is ERR_FULL too", x.ruleCommit(), 1);
        PeepholeRules y = fresh();
        for (int r = 0; r < 16; r++) {
            check.due("rule " + r, Texts.commit(y, "v0 not not not not not not not",
                "v0 1 0 add sub 1 add not"), 0);
        }
        check.due("the longest draft behind 16 rules", Texts.commit(y, "v0 not not not not not not not",
            "v0 1 0 add sub 1 add not"), 1);
    }

    private static void shape(Check check) {
        PeepholeRules x = fresh();
        check.due("both empty", x.ruleCommit(), 2);
        Texts.pattern(x, "v0 not");
        check.due("empty replacement", x.ruleCommit(), 2);
        Texts.replacement(x, "v0");
        check.due("empty pattern", x.ruleCommit(), 2);
        check.due("two pending in the pattern", Texts.commit(x, "v0 v0 not", "v0"), 2);
        check.due("two pending in the replacement", Texts.commit(x, "v0 not not", "v0 v0"), 2);
        check.due("a leaf pattern, VAR", Texts.commit(x, "v0", "v0"), 2);
        check.due("a leaf pattern, CVAR", Texts.commit(x, "k0", "v0"), 2);
        check.due("a leaf pattern, CONST", Texts.commit(x, "3", "3"), 2);
        check.due("a leaf replacement, VAR", Texts.commit(x, "v0 not not", "v0"), 0);
        check.due("a leaf replacement, CONST", Texts.commit(x, "v0 v0 sub", "0"), 0);
        check.due("a leaf replacement, VAR of a CVAR", Texts.commit(x, "k0 0 or", "v0"), 0);
        check.due("count", x.stat(4), 3);
    }

    private static void variables(Check check) {
        PeepholeRules x = fresh();
        check.due("0 as VAR and as CVAR", Texts.commit(x, "v0 k0 add", "v0"), 3);
        check.due("1 as CVAR and as VAR", Texts.commit(x, "k1 v1 add", "v1"), 3);
        check.due("v1 is not in the pattern", Texts.commit(x, "v0 not not", "v1"), 3);
        check.due("v0 is not in the pattern", Texts.commit(x, "v1 not not", "v0"), 3);
        check.due("v0 is in no part of it", Texts.commit(x, "1 2 add", "v0 v0 sub"), 3);
        check.due("a CONST 1 is no variable", Texts.commit(x, "v0 1 and 1 or", "v1"), 3);
        check.due("a CVAR is named by VAR", Texts.commit(x, "k1 0 add", "v1"), 0);
        check.due("no variable at all", Texts.commit(x, "1 2 add", "3"), 0);
        check.due("a variable may go unused", Texts.commit(x, "v0 0 and v1 v1 xor or", "0"), 0);
        check.due("VAR 0 beside CVAR 1", Texts.commit(x, "v0 0 add k1 add", "v0 v1 add"), 0);
    }

    private static void precondition(Check check) {
        PeepholeRules x = fresh();
        check.due("of a VAR", Texts.commitIf(x, Texts.pre(2, 0, 255), "v0 not not", "v0"), 4);
        check.due("of no variable", Texts.commitIf(x, Texts.pre(1, 1, 0), "k0 0 add", "v0"), 4);
        check.due("of a VAR beside a CVAR", Texts.commitIf(x, Texts.pre(1, 0, 0), "v0 k1 add", "v0"), 4);
        check.due("of a CVAR", Texts.commitIf(x, Texts.pre(1, 1, 0), "v0 k1 add", "v0"), 0);
        check.due("PRE_NONE asks for none", Texts.commitIf(x, Texts.pre(0, 1, 0), "v0 not not", "v0"), 0);
        check.due("never true", Texts.commitIf(x, Texts.pre(3, 0, 0), "v1 k0 add", "7"), 0);
        Texts.output(x, "a0 9 add");
        check.due("and never matched", x.optimize(), 0);
    }

    private static void cost(Check check) {
        PeepholeRules x = fresh();
        check.due("equal", Texts.commit(x, "v0 v1 add", "v1 v0 add"), 5);
        check.due("dearer", Texts.commit(x, "v0 neg", "v0 not 1 add"), 5);
        check.due("MUL is 3", Texts.commit(x, "v0 3 mul", "v0 v0 add v0 add"), 0);
        check.due("MUL is not more", Texts.commit(x, "v0 3 mul", "v0 v0 add v0 add 0 add"), 5);
        check.due("MUL in the replacement", Texts.commit(x, "v0 v0 add v0 add not not", "v0 3 mul"), 0);
        check.due("MUL against three", Texts.commit(x, "v0 v0 add v0 add 0 or", "v0 3 mul 0 or"), 5);
        check.due("constants are folded for nothing", Texts.commit(x, "v0 k1 add 1 add", "v0 v1 1 add add"), 0);
        check.due("so is a MUL of them", Texts.commit(x, "k0 k1 add", "v0 v1 add 3 mul 171 mul"), 0);
        check.due("variables are not", Texts.commit(x, "v0 v1 add 1 add", "v0 v1 1 add add"), 5);
        check.due("CVAR beside VAR is not", Texts.commit(x, "v0 k1 add", "v0 v1 add"), 5);
        check.due("cost comes before right", Texts.commit(x, "v0 v1 add", "v1 v0 sub"), 5);
        check.due("equal after folding", Texts.commit(x, "k0 v1 add", "v0 3 add v1 add"), 5);
        String[] words = {"add", "sub", "and", "or", "xor", "shl", "shr"};
        for (String word : words) {
            check.due(word + " is 1", Texts.commit(x, "v0 v1 " + word + " not not", "v0 v1 " + word), 0);
            check.due(word + " is not less", Texts.commit(x, "v0 v1 " + word, "v0 v1 or"), 5);
        }
    }

    private static void wrong(Check check) {
        PeepholeRules x = fresh();
        check.due("wrong at once", Texts.commit(x, "v0 v1 add", "1"), 6);
        check.due("at 0, 0", x.stat(5), 0);
        check.due("v0 is the outer loop", Texts.commit(x, "v0 v1 or", "v0"), 6);
        check.due("v0 = 0, v1 = 1", x.stat(5), 256);
        check.due("v0 late", Texts.commit(x, "v0 1 shl 1 shr", "v0"), 6);
        check.due("v0 = 128", x.stat(5), 128);
        check.due("only v1", Texts.commit(x, "v1 1 shl 1 shr", "v1"), 6);
        check.due("v1 = 128", x.stat(5), 128 * 256);
        check.due("v0 = 255 alone", Texts.commit(x, "1 v0 not shr", "0"), 6);
        check.due("at 255", x.stat(5), 255);
        check.due("255, 255 alone", Texts.commit(x, "1 v0 v1 and not shr", "0"), 6);
        check.due("at 255, 255", x.stat(5), 65535);
        check.due("both late", Texts.commit(x, "v0 v1 and 128 and", "0"), 6);
        check.due("v0 = 128, v1 = 128", x.stat(5), 128 + 256 * 128);
        check.due("v0 = 255 is all that is checked", Texts.commitIf(x, Texts.pre(4, 0, 255), "k0 v1 add 255 sub", "v1 0 or"), 0);
        check.due("skipped", Texts.commitIf(x, Texts.pre(2, 0, 0), "k0 v1 and", "0"), 6);
        check.due("v0 = 1, v1 = 1", x.stat(5), 257);
        check.due("precondition on v1", Texts.commitIf(x, Texts.pre(4, 1, 9), "v0 k1 and", "0"), 6);
        check.due("v0 = 1, v1 = 9", x.stat(5), 1 + 256 * 9);
        check.due("no variable", Texts.commit(x, "2 3 add", "6"), 6);
        check.due("at 0", x.stat(5), 0);
    }

    private static void semantics(Check check) {
        PeepholeRules x = fresh();
        String[][] equal = {
            {"200 100 add", "44"}, {"3 5 sub", "254"}, {"20 20 mul", "144"}, {"12 10 and", "8"},
            {"12 10 or", "14"}, {"12 10 xor", "6"}, {"129 1 shl", "2"}, {"1 7 shl", "128"},
            {"1 8 shl", "0"}, {"255 32 shl", "0"}, {"255 255 shl", "0"}, {"255 7 shr", "1"},
            {"255 8 shr", "0"}, {"255 32 shr", "0"}, {"129 1 shr", "64"}, {"129 0 shr", "129"}
        };
        for (String[] rule : equal) {
            check.due(rule[0], Texts.commit(x, rule[0], rule[1]), 0);
        }
        PeepholeRules y = fresh();
        check.due("15 not", Texts.commit(y, "15 not", "240"), 0);
        check.due("1 neg", Texts.commit(y, "1 neg", "255"), 0);
        check.due("0 neg", Texts.commit(y, "0 neg", "0"), 0);
        check.due("128 neg", Texts.commit(y, "128 neg", "128"), 0);
        check.due("neg is not of what", Texts.commit(y, "v0 not 1 add", "v0 neg"), 0);
        check.due("sub of or", Texts.commit(y, "v0 v1 or v0 v1 and sub", "v0 v1 xor"), 0);
        check.due("shl is mul", Texts.commit(y, "v0 8 mul", "v0 3 shl"), 0);
        check.due("32 is no shift by 0", Texts.commit(y, "v0 32 shl not not", "v0"), 6);
    }

    private static void orderOfTests(Check check) {
        PeepholeRules x = new PeepholeRules(16, 1);
        check.due("shape before variables", Texts.commit(x, "v0 k0", "v1"), 2);
        check.due("variables before precondition",
            Texts.commitIf(x, Texts.pre(1, 1, 0), "v0 k0 add", "v0"), 3);
        check.due("precondition before cost",
            Texts.commitIf(x, Texts.pre(1, 0, 0), "v0 v1 add", "v0 v1 add"), 4);
        check.due("precondition before wrong",
            Texts.commitIf(x, Texts.pre(1, 0, 0), "v0 v1 add", "v0"), 4);
        check.due("cost before wrong", Texts.commit(x, "v0 v1 add", "v0 v1 or"), 5);
        check.due("wrong", Texts.commit(x, "v0 v1 add", "v0"), 6);
        Texts.commit(x, "v0 not not", "v0");
        check.due("full before shape", Texts.commit(x, "v0", "v0"), 1);
        check.due("full before variables", Texts.commit(x, "v0 k0 add", "v0"), 1);
        check.due("full before cost", Texts.commit(x, "v0 not", "v0 not"), 1);
        check.due("full before wrong", Texts.commit(x, "v0 not", "v0"), 1);
        check.due("full before OK", Texts.commit(x, "v0 not not", "v0"), 1);
    }

    private static void counterexampleIsCleared(Check check) {
        PeepholeRules x = new PeepholeRules(16, 1);
        int[] verdicts = {2, 3, 4, 5, 0, 1};
        for (int want : verdicts) {
            if (want == 1) {
                check.due("full", x.stat(5), -1);
                x.ruleCommit();
            } else {
                Texts.commit(x, "v0 not", "v0");
                check.due("before verdict " + want, x.stat(5), 0);
                int verdict = commitFor(x, want);
                check.due("verdict", verdict, want);
            }
            check.due("after verdict " + want, x.stat(5), -1);
        }
    }

    private static int commitFor(PeepholeRules x, int verdict) {
        switch (verdict) {
            case 2:
                return x.ruleCommit();
            case 3:
                return Texts.commit(x, "v0 not", "v1");
            case 4:
                return Texts.commitIf(x, Texts.pre(1, 0, 0), "v0 not", "v0");
            case 5:
                return Texts.commit(x, "v0 not", "v0 not");
            default:
                return Texts.commit(x, "v0 not not", "v0");
        }
    }

    private static void draftIsEmptied(Check check) {
        PeepholeRules x = fresh();
        String[][] drafts = {
            {"v0 v0", "v0"}, {"v0 not", "v1"}, {"v0 not", "v0 not"}, {"v0 not", "v0"}, {"v0 not not", "v0"}
        };
        for (String[] draft : drafts) {
            int verdict = Texts.commit(x, draft[0], draft[1]);
            check.due("nothing pending in the pattern after " + verdict, x.rulePat(9, 0), false);
            check.due("nothing pending in the replacement after " + verdict, x.ruleRep(9, 0), false);
            check.due("nothing left after " + verdict, x.ruleCommit(), 2);
            Texts.commitIf(x, Texts.pre(1, 0, 3), draft[0], draft[1]);
            check.due("no precondition left after " + verdict, Texts.commit(x, "v0 neg neg", "v0"), 0);
        }
        PeepholeRules y = new PeepholeRules(16, 1);
        Texts.commit(y, "v0 not not", "v0");
        Texts.commit(y, "v0 not not", "v0");
        check.due("nothing pending after ERR_FULL", y.rulePat(9, 0), false);
        Texts.commitIf(y, Texts.pre(1, 0, 3), "k0 not", "252");
        Texts.output(y, "a0 not not");
        check.due("the last rule is whole after ERR_FULL", y.optimize(), 1);
    }

    private static void nothingElseChanges(Check check) {
        PeepholeRules x = fresh();
        Texts.commit(x, "v0 not not", "v0");
        Texts.output(x, "a0 not not a1 add");
        x.optimize();
        String before = Texts.state(x);
        check.due("refused", Texts.commit(x, "v0 not", "v0 not"), 5);
        check.due("after a refusal", Texts.state(x), before);
        Texts.commit(x, "v0 v1 add 0 add", "v0 v1 add");
        check.due("applications", x.stat(3), 1);
        check.due("phase", x.stat(7), 1);
        check.due("uses of the other rule", x.ruleUses(0), 1);
        check.due("uses of the new rule", x.ruleUses(1), 0);
        check.due("cost", x.stat(1), 1);
        check.due("original cost", x.stat(2), 3);
    }

    private static void actsAtNextOptimize(Check check) {
        PeepholeRules x = fresh();
        Texts.output(x, "a0 not not");
        check.due("no rule yet", x.optimize(), 0);
        Texts.commit(x, "v0 not not", "v0");
        check.due("not applied by itself", Texts.shape(x, 0), "a0 not not");
        check.due("applied at the next optimize", x.optimize(), 1);
        check.due("shape", Texts.shape(x, 0), "a0");
    }
}
