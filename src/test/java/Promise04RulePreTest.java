final class Promise04RulePreTest {
    private static final int LOW = Integer.MIN_VALUE;
    private static final int HIGH = Integer.MAX_VALUE;

    public static void main(String[] args) {
        Check check = new Check();
        arguments(check);
        laterReplacesEarlier(check);
        refusedLeavesEarlier(check);
        zeroClears(check);
        relations(check);
        nothingElseChanges(check);
        check.finish();
    }

    private static void arguments(Check check) {
        PeepholeRules x = new PeepholeRules(16, 8);
        int[] relations = {LOW, -1, 0, 1, 2, 3, 4, 5, 6, 256, HIGH};
        int[] variables = {LOW, -1, 0, 1, 2, HIGH};
        int[] constants = {LOW, -1, 0, 1, 254, 255, 256, HIGH};
        for (int rel : relations) {
            for (int j : variables) {
                for (int k : constants) {
                    boolean want = rel == 0
                        || rel >= 1 && rel <= 4 && (j == 0 || j == 1) && k >= 0 && k <= 255;
                    check.due("rulePre(" + rel + ", " + j + ", " + k + ")", x.rulePre(rel, j, k), want);
                }
            }
        }
        check.due("no CVAR is asked for yet", x.rulePre(1, 1, 3), true);
    }

    // For v1 + c0 -> v1, the first failing c0 tells which precondition stands; it is right for 0 alone.
    private static int firstFailing(PeepholeRules x) {
        int verdict = Texts.commit(x, "v1 k0 add", "v1");
        return verdict == 6 ? x.stat(5) : -verdict - 1;
    }

    private static void laterReplacesEarlier(Check check) {
        PeepholeRules x = new PeepholeRules(16, 8);
        x.rulePre(1, 0, 7);
        x.rulePre(4, 0, 20);
        check.due("the later one", firstFailing(x), 20);
        x.rulePre(4, 0, 20);
        x.rulePre(1, 0, 7);
        check.due("the later one again", firstFailing(x), 7);
        x.rulePre(1, 1, 7);
        x.rulePre(1, 0, 0);
        check.due("it is right for 0", firstFailing(x), -1);
    }

    private static void refusedLeavesEarlier(Check check) {
        PeepholeRules x = new PeepholeRules(16, 8);
        x.rulePre(4, 0, 33);
        x.rulePre(5, 0, 1);
        x.rulePre(-1, 0, 1);
        x.rulePre(1, 2, 1);
        x.rulePre(1, -1, 1);
        x.rulePre(1, 0, 256);
        x.rulePre(1, 0, -1);
        check.due("the accepted one stands", firstFailing(x), 33);
    }

    private static void zeroClears(Check check) {
        PeepholeRules x = new PeepholeRules(16, 8);
        x.rulePre(4, 0, 33);
        check.due("rel 0", x.rulePre(0, LOW, HIGH), true);
        check.due("all are checked", firstFailing(x), 1);
        x.rulePre(1, 1, 4);
        x.rulePre(0, 7, 7);
        check.due("no CVAR is asked for", Texts.commit(x, "v0 not not", "v0"), 0);
        x.rulePre(0, 1, 300);
        check.due("rel 0 with odd arguments commits", Texts.commit(x, "k1 k1 sub", "0"), 0);
        Texts.output(x, "a0 9 add not not");
        check.due("and acts", x.optimize(), 1);
    }

    private static int countMatching(int rel, int k) {
        PeepholeRules x = new PeepholeRules(32, 8);
        if (Texts.commitIf(x, Texts.pre(rel, 1, k), "k1 not", "0 v1 not or") != 0) {
            return -1;
        }
        int count = 0;
        for (int v = 0; v <= 255; v++) {
            x.clearDag();
            Texts.output(x, v + " not");
            count += x.optimize();
        }
        return count;
    }

    private static boolean holds(int rel, int v, int k) {
        return rel == 1 && v == k || rel == 2 && v != k || rel == 3 && v < k || rel == 4 && v >= k;
    }

    private static void relations(Check check) {
        for (int rel = 1; rel <= 4; rel++) {
            for (int k : new int[] {0, 1, 127, 128, 254, 255}) {
                int first = -1;
                int count = 0;
                for (int v = 255; v >= 0; v--) {
                    if (holds(rel, v, k)) {
                        first = v == 0 ? first : v;
                        count++;
                    }
                }
                PeepholeRules x = new PeepholeRules(16, 8);
                x.rulePre(rel, 0, k);
                check.due("checked by " + rel + " " + k, firstFailing(x), first);
                check.due("matched by " + rel + " " + k, countMatching(rel, k), count);
            }
        }
    }

    private static void nothingElseChanges(Check check) {
        PeepholeRules x = new PeepholeRules(16, 8);
        Texts.commit(x, "k0 not", "v0 not");
        Texts.commit(x, "v0 neg", "v0");
        Texts.output(x, "4 not a0 add");
        String before = Texts.state(x);
        x.rulePre(1, 0, 5);
        x.rulePre(9, 0, 5);
        check.due("state", Texts.state(x), before);
        check.due("the accepted rule has none", x.optimize(), 1);
    }
}
