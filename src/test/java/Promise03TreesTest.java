final class Promise03TreesTest {
    private static final int LOW = Integer.MIN_VALUE;
    private static final int HIGH = Integer.MAX_VALUE;

    public static void main(String[] args) {
        Check check = new Check();
        kinds(check);
        leafValues(check);
        pendingSubtrees(check);
        eightNodes(check);
        refusedCallsLeaveNoTrace(check);
        olderIsOperandA(check);
        treesAreApart(check);
        nothingElseChanges(check);
        check.finish();
    }

    private static PeepholeRules withTwoPending() {
        PeepholeRules x = new PeepholeRules(16, 8);
        Texts.pattern(x, "v0 v1");
        Texts.replacement(x, "v0 v1");
        return x;
    }

    private static void kinds(Check check) {
        for (int kind = -20; kind <= 40; kind++) {
            boolean inPattern = kind >= 1 && kind <= 11 || kind == 13 || kind == 14;
            check.due("pattern kind " + kind, withTwoPending().rulePat(kind, 0), inPattern);
            check.due("replacement kind " + kind, withTwoPending().ruleRep(kind, 0), inPattern && kind != 14);
        }
        for (int kind : new int[] {LOW, LOW + 1, HIGH, 256 + 1, 256 + 11}) {
            check.due("pattern kind " + kind, withTwoPending().rulePat(kind, 0), false);
            check.due("replacement kind " + kind, withTwoPending().ruleRep(kind, 0), false);
        }
    }

    private static void leafValues(Check check) {
        for (int value : new int[] {LOW, -256, -1, 0, 1, 2, 3, 128, 255, 256, 257, HIGH}) {
            boolean word = value >= 0 && value <= 255;
            boolean variable = value == 0 || value == 1;
            check.due("pattern CONST " + value, withTwoPending().rulePat(11, value), word);
            check.due("pattern VAR " + value, withTwoPending().rulePat(13, value), variable);
            check.due("pattern CVAR " + value, withTwoPending().rulePat(14, value), variable);
            check.due("replacement CONST " + value, withTwoPending().ruleRep(11, value), word);
            check.due("replacement VAR " + value, withTwoPending().ruleRep(13, value), variable);
            check.due("replacement CVAR " + value, withTwoPending().ruleRep(14, value), false);
            for (int kind = 1; kind <= 10; kind++) {
                check.due("pattern " + kind + " ignores " + value, withTwoPending().rulePat(kind, value), true);
                check.due("replacement " + kind + " ignores " + value, withTwoPending().ruleRep(kind, value), true);
            }
        }
        PeepholeRules x = new PeepholeRules(16, 8);
        x.rulePat(13, 0);
        x.rulePat(9, 1);
        x.rulePat(9, -7);
        x.ruleRep(13, 0);
        check.due("an ignored value names no variable", x.ruleCommit(), 0);
    }

    private static void pendingSubtrees(Check check) {
        for (int kind = 1; kind <= 10; kind++) {
            PeepholeRules x = new PeepholeRules(16, 8);
            check.due("pattern " + kind + " with none pending", x.rulePat(kind, 0), false);
            check.due("replacement " + kind + " with none pending", x.ruleRep(kind, 0), false);
            x.rulePat(11, 3);
            x.ruleRep(11, 3);
            check.due("pattern " + kind + " with one pending", x.rulePat(kind, 0), kind >= 9);
            check.due("replacement " + kind + " with one pending", x.ruleRep(kind, 0), kind >= 9);
        }
        PeepholeRules x = withTwoPending();
        x.rulePat(1, 0);
        x.ruleRep(1, 0);
        check.due("a pattern's binary node takes two", x.rulePat(1, 0), false);
        check.due("a replacement's binary node takes two", x.ruleRep(1, 0), false);
        PeepholeRules y = withTwoPending();
        y.rulePat(9, 0);
        check.due("a unary node takes one", y.rulePat(1, 0), true);
    }

    private static void eightNodes(Check check) {
        PeepholeRules x = new PeepholeRules(16, 8);
        for (int i = 0; i < 8; i++) {
            check.due("pattern node " + i, x.rulePat(11, i), true);
        }
        check.due("ninth pattern leaf", x.rulePat(11, 0), false);
        check.due("ninth pattern node", x.rulePat(1, 0), false);
        for (int i = 0; i < 8; i++) {
            check.due("replacement node " + i, x.ruleRep(11, i), true);
        }
        check.due("ninth replacement leaf", x.ruleRep(11, 0), false);
        check.due("ninth replacement node", x.ruleRep(9, 0), false);
        check.due("unfinished trees are judged by ruleCommit", x.ruleCommit(), 2);
        check.due("two trees of 8 nodes", Texts.commit(x, "v0 not not not not not not not",
            "v0 1 0 add sub 1 add not"), 0);
        check.due("a pattern of 8 nodes", Texts.commit(x, "v0 not not not not not not not", "v0 not"), 0);
        check.due("a folded replacement of 8 nodes", Texts.commit(x, "v0 v0 xor", "1 not 2 add neg neg 3 add"), 6);
        check.due("its value is 3", Texts.commit(x, "v0 v0 xor 3 or", "1 not 2 add neg neg 3 add"), 0);
    }

    private static void refusedCallsLeaveNoTrace(Check check) {
        PeepholeRules x = new PeepholeRules(16, 8);
        x.rulePat(13, 0);
        x.rulePat(1, 0);
        x.rulePat(11, 256);
        x.rulePat(13, 2);
        x.rulePat(14, -1);
        x.rulePat(12, 0);
        x.rulePat(0, 0);
        x.rulePat(9, 0);
        x.rulePat(15, 0);
        x.rulePat(9, 0);
        x.ruleRep(9, 0);
        x.ruleRep(14, 0);
        x.ruleRep(13, 0);
        x.ruleRep(2, 0);
        x.ruleRep(11, -1);
        check.due("only v0 not not -> v0 was taken", x.ruleCommit(), 0);
        Texts.output(x, "a2 not not");
        check.due("it acts", x.optimize(), 1);
        check.due("its shape", Texts.shape(x, 0), "a2");
    }

    private static void olderIsOperandA(Check check) {
        PeepholeRules x = new PeepholeRules(16, 8);
        check.due("v0 - v1", Texts.commit(x, "v0 v1 sub 0 add", "v0 v1 sub"), 0);
        check.due("v1 - v0", Texts.commit(x, "v0 v1 sub 0 add", "v1 v0 sub"), 6);
        check.due("first difference", x.stat(5), 256);
        check.due("1 << v0", Texts.commit(x, "1 v0 shl 0 or", "1 v0 shl"), 0);
        check.due("v0 << 1", Texts.commit(x, "1 v0 shl 0 or", "v0 1 shl"), 6);
        check.due("the newest subtree is negated", Texts.commit(x, "v0 v1 neg add", "v0 v1 sub"), 0);
        check.due("not the older one", Texts.commit(x, "v0 v1 neg add", "v1 v0 sub"), 6);
        PeepholeRules y = new PeepholeRules(16, 8);
        Texts.commit(y, "v0 v1 neg add", "v0 v1 sub");
        Texts.output(y, "a0 a1 neg add");
        Texts.output(y, "a0 neg a1 add");
        check.due("one of two matches", y.optimize(), 1);
        check.due("operands of the result", Texts.shape(y, 0), "a0 a1 sub");
        check.due("operands in another order", Texts.shape(y, 1), "a0 neg a1 add");
    }

    private static void treesAreApart(Check check) {
        PeepholeRules x = new PeepholeRules(16, 8);
        x.rulePat(13, 0);
        check.due("the pattern's subtree is not pending in the replacement", x.ruleRep(9, 0), false);
        x.ruleRep(13, 0);
        check.due("the replacement's subtree is not pending in the pattern", x.rulePat(1, 0), false);
        x.ruleRep(9, 0);
        x.rulePat(9, 0);
        x.rulePat(9, 0);
        x.rulePat(9, 0);
        check.due("entered in turns", x.ruleCommit(), 0);
        x.rulePre(1, 0, 9);
        Texts.pattern(x, "v1 k0 add");
        Texts.replacement(x, "v1");
        check.due("the precondition stays", x.ruleCommit(), 6);
        check.due("it is v0 == 9", x.stat(5), 9);
    }

    private static void nothingElseChanges(Check check) {
        PeepholeRules x = new PeepholeRules(16, 8);
        Texts.commit(x, "v0 not not", "v0");
        Texts.output(x, "a0 not not a1 add");
        Texts.commit(x, "v0 neg", "v0");
        String built = Texts.state(x);
        Texts.pattern(x, "v0 neg neg");
        Texts.replacement(x, "v0");
        x.rulePat(12, 0);
        x.ruleRep(14, 0);
        check.due("BUILDING", Texts.state(x), built);
        x.optimize();
        String optimized = Texts.state(x);
        Texts.pattern(x, "not not");
        Texts.replacement(x, "not not");
        check.due("OPTIMIZED", Texts.state(x), optimized);
    }
}
