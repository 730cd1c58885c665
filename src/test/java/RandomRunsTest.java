// Long made-up runs of calls, each answer compared with the reference model's. The seeds are fixed.
final class RandomRunsTest {
    private static final int RUNS = 800;

    // Right rules, each with the precondition that makes it right, or none.
    private static final String[][] RULES = {
        {"v0 0 add", "v0", "0 0 0"}, {"v0 2 mul", "v0 v0 add", "0 0 0"}, {"v0 v0 sub", "0", "0 0 0"},
        {"v0 v0 xor", "0", "0 0 0"}, {"k0 k1 add", "v0 v1 add", "0 0 0"}, {"k0 k1 mul", "v0 v1 mul", "0 0 0"},
        {"v0 k1 add 1 add", "v0 v1 1 add add", "0 0 0"}, {"v0 not not", "v0", "0 0 0"},
        {"v0 neg neg", "v0", "0 0 0"}, {"v0 v1 neg add", "v0 v1 sub", "0 0 0"}, {"v0 k1 shl", "0", "4 1 8"},
        {"v0 k1 and", "v0", "1 1 255"}, {"v0 3 mul", "v0 1 shl v0 add", "0 0 0"}, {"k0 neg", "0 v0 sub", "0 0 0"},
        {"k0 not", "v0 255 xor", "0 0 0"}, {"v1 k0 mul", "v1", "1 0 1"}, {"v0 v0 and", "v0", "0 0 0"},
        {"v0 v1 and v0 or", "v0", "0 0 0"}, {"v0 not v1 not and", "v0 v1 or not", "0 0 0"},
        {"v0 v1 or v0 v1 and sub", "v0 v1 xor", "0 0 0"}, {"v1 k0 add", "v1", "3 0 1"},
        {"v1 k0 shl 1 shl", "v1 v0 1 add shl", "2 0 255"}, {"k0 v1 and k0 and", "v1 v0 and", "0 0 0"},
        {"v0 v1 add v1 sub", "v0", "0 0 0"}, {"v0 5 mul", "v0 2 shl v0 add", "0 0 0"},
        {"v0 k1 and 2 mul", "v0 v1 not not and 1 shl", "0 0 0"}, {"v0 7 mul", "v0 3 shl v0 sub", "0 0 0"},
        {"k0 0 or", "v0", "0 0 0"}, {"v0 not 1 add", "v0 neg", "0 0 0"}
    };

    private final Check check = new Check();
    private long seed;
    private int run;
    private int applied = 0;
    private final int[] verdicts = new int[7];
    private final int[] entered = new int[6];
    private int lastEntered = 0;
    private PeepholeRules x;
    private ReferenceModel y;

    public static void main(String[] args) {
        RandomRunsTest test = new RandomRunsTest();
        for (test.run = 0; test.run < RUNS; test.run++) {
            test.oneRun();
        }
        test.check.due("applications were made, " + test.applied, test.applied > 500, true);
        for (int verdict = 0; verdict <= 6; verdict++) {
            int met = test.verdicts[verdict];
            test.check.due("verdict " + verdict + " was met, " + met, met > 10, true);
        }
        test.check.finish();
    }

    private int below(int bound) {
        seed = seed * 6364136223846793005L + 1442695040888963407L;
        return (int) ((seed >>> 33) % bound);
    }

    private int odd() {
        int[] values = {Integer.MIN_VALUE, -256, -1, 0, 1, 2, 3, 4, 5, 8, 15, 16, 32, 255, 256, Integer.MAX_VALUE};
        return values[below(values.length)];
    }

    private void due(String call, long got, long want) {
        check.due("run " + run + ": " + call, got, want);
    }

    private void oneRun() {
        seed = 1000003L * run + 17;
        int maxNodes = below(6) == 0 ? odd() : 8 + below(25);
        int maxRules = below(6) == 0 ? odd() : 4 + below(13);
        x = new PeepholeRules(maxNodes, maxRules);
        y = new ReferenceModel(maxNodes, maxRules);
        for (int i = 0; i < entered.length; i++) {
            knownRule();
        }
        int rounds = 2 + below(4);
        for (int round = 0; round < rounds; round++) {
            someCalls(2, 0);
            someCalls(8, 1);
            someCalls(8, 1);
            addOutputs();
            if (below(3) == 0) {
                compareQueries();
            }
            optimize();
            compareQueries();
            someCalls(3, below(2));
            optimize();
            compareQueries();
            if (below(8) > 0) {
                x.clearDag();
                y.clearDag();
            }
        }
    }

    // Mood 0 is for calls about rules, mood 1 for calls about nodes, with a few others among them.
    private void someCalls(int most, int mood) {
        int calls = below(most + 1);
        for (int i = 0; i < calls; i++) {
            int choice = below(20);
            if (choice == 0) {
                draftCall();
            } else if (choice == 1) {
                addOutput(odd());
            } else if (mood == 0 && choice < 4) {
                madeUpRule();
            } else if (mood == 0) {
                knownRule();
            } else if (choice < 9) {
                instanceOfPattern();
            } else {
                addNode();
            }
        }
    }

    private void addOutput(int n) {
        due("addOutput(" + n + ")", x.addOutput(n), y.addOutput(n));
    }

    private void addOutputs() {
        int outputs = below(10) == 0 ? 0 : 1 + below(3);
        for (int k = 0; k < outputs; k++) {
            int back = k == 0 ? 0 : below(20);
            addOutput(Math.max(0, y.stat(8) - 1 - back));
        }
    }

    private void optimize() {
        int got = x.optimize();
        due("optimize()", got, y.optimize());
        applied += got;
        for (int k = 0; k < x.stat(6); k++) {
            for (int i = 0; i < 4; i++) {
                int args = below(65536) << 16 | below(65536);
                due("eval(" + k + ") as the original", x.eval(k, args, false), x.eval(k, args, true));
            }
        }
        check.due("cost", x.stat(1) + x.stat(3) <= x.stat(2), true);
    }

    private void pat(int kind, int value) {
        due("rulePat(" + kind + ", " + value + ")", x.rulePat(kind, value) ? 1 : 0, y.rulePat(kind, value) ? 1 : 0);
    }

    private void rep(int kind, int value) {
        due("ruleRep(" + kind + ", " + value + ")", x.ruleRep(kind, value) ? 1 : 0, y.ruleRep(kind, value) ? 1 : 0);
    }

    private void pre(int rel, int j, int k) {
        due("rulePre(" + rel + ", " + j + ", " + k + ")", x.rulePre(rel, j, k) ? 1 : 0, y.rulePre(rel, j, k) ? 1 : 0);
    }

    private void commit() {
        int verdict = x.ruleCommit();
        due("ruleCommit()", verdict, y.ruleCommit());
        due("counterexample", x.stat(5), y.stat(5));
        verdicts[verdict]++;
    }

    private void begin() {
        x.ruleBegin();
        y.ruleBegin();
    }

    private void knownRule() {
        int index = below(RULES.length);
        String[] rule = RULES[index];
        entered[lastEntered] = index;
        lastEntered = (lastEntered + 1) % entered.length;
        String[] condition = rule[2].split(" ");
        begin();
        for (String word : rule[0].split(" ")) {
            pat(Texts.kindOf(word), Texts.valueOf(word));
        }
        // A pattern as its own replacement is too dear, unless it is folded.
        String replacement = below(12) == 0 ? rule[0].replace('k', 'v') : rule[1];
        for (String word : replacement.split(" ")) {
            rep(Texts.kindOf(word), Texts.valueOf(word));
        }
        if (below(10) > 0) {
            pre(Integer.parseInt(condition[0]), Integer.parseInt(condition[1]), Integer.parseInt(condition[2]));
        } else {
            pre(below(5), below(2), below(256));
        }
        commit();
    }

    private void madeUpRule() {
        begin();
        int length = 3 + below(10);
        for (int i = 0; i < length; i++) {
            int kind = below(3) == 0 ? 11 + below(4) : 1 + below(14);
            pat(kind, below(2));
        }
        for (int i = 0; i < 3; i++) {
            pat(1 + below(10), 0);
        }
        length = 1 + below(4);
        for (int i = 0; i < length; i++) {
            rep(1 + below(14), below(2));
        }
        rep(1 + below(10), 0);
        if (below(3) == 0) {
            pre(below(5), below(2), below(256));
        }
        commit();
    }

    private void draftCall() {
        switch (below(5)) {
            case 0:
                pat(odd(), odd());
                break;
            case 1:
                rep(odd(), odd());
                break;
            case 2:
                pre(odd(), odd(), odd());
                break;
            case 3:
                commit();
                break;
            default:
                begin();
                break;
        }
    }

    private int add(int kind, int a, int b) {
        int got = x.addNode(kind, a, b);
        due("addNode(" + kind + ", " + a + ", " + b + ")", got, y.addNode(kind, a, b));
        return got;
    }

    private void addNode() {
        int choice = below(20);
        int count = Math.max(1, y.stat(8));
        if (choice == 0) {
            add(odd(), odd(), odd());
        } else if (choice < 4) {
            add(11, below(3) == 0 ? below(256) : below(4), 0);
        } else if (choice < 6) {
            add(12, below(4), 0);
        } else {
            int a = below(4) == 0 ? below(count) : count - 1;
            int b = below(2) == 0 ? below(count) : count - 1;
            add(1 + below(10), a, b);
        }
    }

    // Adds a rule's pattern over nodes that are there, so that matches are not rare.
    private void instanceOfPattern() {
        if (y.stat(8) == 0) {
            add(12, below(4), 0);
        }
        int count = Math.max(1, y.stat(8));
        int[] variables = {Math.max(0, count - 1 - below(3)), Math.max(0, count - 1 - below(8))};
        int[] stack = new int[10];
        int depth = 0;
        int index = below(4) == 0 ? below(RULES.length) : entered[below(entered.length)];
        for (String word : RULES[index][0].split(" ")) {
            int kind = Texts.kindOf(word);
            int value = Texts.valueOf(word);
            if (kind <= 10) {
                depth -= kind <= 8 ? 2 : 1;
                stack[depth] = add(kind, stack[depth], kind <= 8 ? stack[depth + 1] : 0);
            } else if (kind == 13) {
                stack[depth] = variables[value];
            } else {
                stack[depth] = add(11, kind == 11 ? value : below(12), 0);
            }
            depth++;
        }
    }

    private void compareQueries() {
        for (int which = -1; which <= 9; which++) {
            due("stat(" + which + ")", x.stat(which), y.stat(which));
        }
        for (int op = 0; op <= 13; op++) {
            due("countOp(" + op + ")", x.countOp(op), y.countOp(op));
        }
        for (int r = -1; r <= 16; r++) {
            due("ruleUses(" + r + ")", x.ruleUses(r), y.ruleUses(r));
        }
        for (int k = -1; k <= 4; k++) {
            int args = below(65536) << 16 | below(65536);
            due("eval(" + k + ", " + args + ", false)", x.eval(k, args, false), y.eval(k, args, false));
            due("eval(" + k + ", " + args + ", true)", x.eval(k, args, true), y.eval(k, args, true));
            for (int i = 0; i < 12; i++) {
                int path = below(4) == 0 ? odd() : below(256);
                int depth = i < 10 ? i - 1 : odd();
                due("nodeAt(" + k + ", " + path + ", " + depth + ")",
                    x.nodeAt(k, path, depth), y.nodeAt(k, path, depth));
            }
        }
    }
}
