// Rules, expressions and states as postfix text, so that the tests can be read.
// v0 v1 are VARs, k0 k1 are CVARs, a0..a3 are ARGs, a number is a CONST, the rest are operations.
final class Texts {
    private static final String[] OPERATIONS = {
        "add", "sub", "mul", "and", "or", "xor", "shl", "shr", "not", "neg"
    };

    private Texts() {
    }

    static int kindOf(String word) {
        for (int i = 0; i < OPERATIONS.length; i++) {
            if (OPERATIONS[i].equals(word)) {
                return i + 1;
            }
        }
        switch (word.charAt(0)) {
            case 'v':
                return 13;
            case 'k':
                return 14;
            case 'a':
                return 12;
            default:
                return 11;
        }
    }

    static int valueOf(String word) {
        int kind = kindOf(word);
        if (kind <= 10) {
            return 0;
        }
        return Integer.parseInt(kind == 11 ? word : word.substring(1));
    }

    private static void mustTake(boolean taken, String word) {
        if (!taken) {
            throw new IllegalStateException("the draft refuses " + word);
        }
    }

    static void pattern(PeepholeRules x, String text) {
        for (String word : text.split(" ")) {
            mustTake(x.rulePat(kindOf(word), valueOf(word)), word);
        }
    }

    static void replacement(PeepholeRules x, String text) {
        for (String word : text.split(" ")) {
            mustTake(x.ruleRep(kindOf(word), valueOf(word)), word);
        }
    }

    static int commit(PeepholeRules x, String pattern, String replacement) {
        pattern(x, pattern);
        replacement(x, replacement);
        return x.ruleCommit();
    }

    static int commitIf(PeepholeRules x, int[] precondition, String pattern, String replacement) {
        pattern(x, pattern);
        replacement(x, replacement);
        mustTake(x.rulePre(precondition[0], precondition[1], precondition[2]), "precondition");
        return x.ruleCommit();
    }

    static void accept(PeepholeRules x, String pattern, String replacement) {
        acceptIf(x, pre(0, 0, 0), pattern, replacement);
    }

    static void acceptIf(PeepholeRules x, int[] precondition, String pattern, String replacement) {
        int verdict = commitIf(x, precondition, pattern, replacement);
        if (verdict != 0) {
            throw new IllegalStateException(pattern + " -> " + replacement + " has the verdict " + verdict);
        }
    }

    static int[] pre(int relation, int j, int k) {
        return new int[] {relation, j, k};
    }

    // Adds an expression with a new node for each word, and answers its root.
    static int nodes(PeepholeRules x, String text) {
        int[] stack = new int[64];
        int depth = 0;
        for (String word : text.split(" ")) {
            int kind = kindOf(word);
            int n;
            if (kind >= 11) {
                n = x.addNode(kind, valueOf(word), 0);
            } else if (kind >= 9) {
                depth -= 1;
                n = x.addNode(kind, stack[depth], 0);
            } else {
                depth -= 2;
                n = x.addNode(kind, stack[depth], stack[depth + 1]);
            }
            if (n < 0) {
                throw new IllegalStateException("the DAG refuses " + word + " of " + text);
            }
            stack[depth] = n;
            depth++;
        }
        return stack[0];
    }

    // Adds unary nodes above the last node until there are so many nodes in all, and answers the last.
    static int chain(PeepholeRules x, int kind, int last, int nodes) {
        int n = last;
        for (int count = last + 1; count < nodes; count++) {
            n = x.addNode(kind, n, 0);
        }
        return n;
    }

    static int output(PeepholeRules x, String text) {
        return x.addOutput(nodes(x, text));
    }

    static String shape(PeepholeRules x, int k) {
        return shapeBelow(x, k, 0, 0);
    }

    private static String shapeBelow(PeepholeRules x, int k, int path, int depth) {
        int code = x.nodeAt(k, path, depth);
        int kind = code < 0 ? 0 : code / 256;
        if (kind == 11) {
            return "" + code % 256;
        }
        if (kind == 12) {
            return "a" + code % 256;
        }
        if (kind < 1 || kind > 10 || code % 256 != 0) {
            return "?" + code;
        }
        String a = shapeBelow(x, k, path, depth + 1);
        if (kind >= 9) {
            return a + " " + OPERATIONS[kind - 1];
        }
        String b = shapeBelow(x, k, path | 1 << depth, depth + 1);
        return a + " " + b + " " + OPERATIONS[kind - 1];
    }

    // All that the queries show of an object; the draft is not among it.
    static String state(PeepholeRules x) {
        StringBuilder text = new StringBuilder();
        for (int which = -1; which <= 9; which++) {
            text.append(" s").append(x.stat(which));
        }
        for (int op = 0; op <= 13; op++) {
            text.append(" c").append(x.countOp(op));
        }
        for (int r = -1; r <= 16; r++) {
            text.append(" u").append(x.ruleUses(r));
        }
        int[] inputs = {0, 0x01020304, 0xfffefdfc, 0x80402010, 0x7fb3d591};
        for (int k = -1; k <= 4; k++) {
            for (int args : inputs) {
                text.append(" e").append(x.eval(k, args, false));
                text.append(" o").append(x.eval(k, args, true));
            }
            for (int depth = 0; depth <= 3; depth++) {
                for (int path = 0; path < 1 << depth; path++) {
                    text.append(" n").append(x.nodeAt(k, path, depth));
                }
            }
        }
        return text.toString();
    }
}
