import java.io.IOException;

// The operations of the document, with the edges of each, in all three places where they are computed:
// in eval, in the check of a rule, and in the folding of a replacement.
final class TermsSemanticsTest {
    private static final String[] WORDS = {
        "", "add", "sub", "mul", "and", "or", "xor", "shl", "shr", "not", "neg"
    };

    public static void main(String[] args) throws IOException {
        Sentences document = new Sentences("Semantics");
        document.test("All values are 0..255", TermsSemanticsTest::range);
        document.test("a and b are the values of operand A and operand B", TermsSemanticsTest::operandOrder);
        document.test("ADD (a+b)&255", check -> binary(check, 1, new int[][] {
            {0, 0, 0}, {1, 2, 3}, {254, 1, 255}, {255, 1, 0}, {1, 255, 0}, {128, 128, 0}, {200, 100, 44}, {255, 255, 254}}));
        document.test("SUB (a-b)&255", check -> binary(check, 2, new int[][] {
            {0, 0, 0}, {5, 3, 2}, {0, 1, 255}, {3, 5, 254}, {0, 255, 1}, {255, 255, 0}, {127, 128, 255}, {255, 0, 255}}));
        document.test("MUL (a*b)&255", check -> binary(check, 3, new int[][] {
            {0, 255, 0}, {3, 5, 15}, {15, 17, 255}, {16, 16, 0}, {2, 128, 0}, {255, 255, 1}, {20, 20, 144}, {255, 2, 254}}));
        document.test("AND a&b", check -> binary(check, 4, new int[][] {
            {0, 255, 0}, {255, 255, 255}, {12, 10, 8}, {170, 85, 0}, {128, 255, 128}}));
        document.test("OR a|b", check -> binary(check, 5, new int[][] {
            {0, 0, 0}, {0, 255, 255}, {12, 10, 14}, {170, 85, 255}, {128, 127, 255}}));
        document.test("XOR a^b", check -> binary(check, 6, new int[][] {
            {0, 0, 0}, {255, 255, 0}, {12, 10, 6}, {170, 255, 85}, {128, 0, 128}}));
        document.test("SHL: if b<8 then (a<<b)&255, else 0", check -> binary(check, 7, new int[][] {
            {255, 0, 255}, {129, 1, 2}, {1, 7, 128}, {255, 7, 128}, {255, 8, 0}, {1, 8, 0}, {255, 9, 0}, {255, 16, 0},
            {255, 31, 0}, {255, 32, 0}, {255, 33, 0}, {255, 64, 0}, {255, 128, 0}, {255, 255, 0}}));
        document.test("SHR: if b<8 then a>>b, else 0", check -> binary(check, 8, new int[][] {
            {129, 0, 129}, {129, 1, 64}, {255, 7, 1}, {127, 7, 0}, {255, 8, 0}, {128, 8, 0}, {255, 9, 0}, {255, 16, 0},
            {255, 31, 0}, {255, 32, 0}, {255, 33, 0}, {255, 64, 0}, {255, 128, 0}, {255, 255, 0}}));
        document.test("NOT a^255", check -> unary(check, 9, new int[][] {
            {0, 255}, {255, 0}, {1, 254}, {127, 128}, {128, 127}, {170, 85}}));
        document.test("NEG (0-a)&255", check -> unary(check, 10, new int[][] {
            {0, 0}, {255, 1}, {1, 255}, {127, 129}, {128, 128}, {170, 86}}));
        document.test("A CONST has its value, an ARG the value of its input", TermsSemanticsTest::leaves);
        document.test("in a rule tree VAR j and CVAR j have the value of variable j", TermsSemanticsTest::variables);
        document.finish();
    }

    private static PeepholeRules ofInputs(int kind) {
        PeepholeRules x = States.fresh();
        x.addNode(12, 0, 0);
        x.addNode(12, 1, 0);
        x.addOutput(x.addNode(kind, 0, 1));
        return x;
    }

    private static void range(Check check) {
        for (int kind = 1; kind <= 10; kind++) {
            PeepholeRules x = ofInputs(kind);
            int outside = 0;
            int wrong = 0;
            for (int args = 0; args < 65536; args++) {
                int value = x.eval(0, args, false);
                outside += value < 0 || value > 255 ? 1 : 0;
                wrong += value != ReferenceModel.meaning(kind, args % 256, args / 256) ? 1 : 0;
            }
            check.due("values of " + WORDS[kind] + " outside", outside, 0);
            check.due("wrong values of " + WORDS[kind], wrong, 0);
        }
    }

    private static void operandOrder(Check check) {
        PeepholeRules x = States.fresh();
        Texts.output(x, "a0 a1 sub");
        Texts.output(x, "a1 a0 sub");
        Texts.output(x, "a0 a1 shl");
        Texts.output(x, "a0 a1 shr");
        int[] want = {4, 252, 56, 0};
        for (int k = 0; k < 4; k++) {
            check.due("output " + k, x.eval(k, 0x0307, false), want[k]);
        }
        PeepholeRules y = States.fresh();
        check.due("in a rule", Texts.commit(y, "7 3 sub", "4"), 0);
        check.due("the other way round", Texts.commit(y, "3 7 sub", "252"), 0);
        Texts.accept(y, "k0 k1 sub not", "v0 v1 sub not");
        Texts.output(y, "9 3 sub not");
        check.due("folded", y.optimize(), 1);
        check.due("to 6, complemented", Texts.shape(y, 0), "249");
    }

    private static void dueInRule(Check check, String pattern, int want) {
        PeepholeRules x = States.fresh();
        check.due(pattern + " in a pattern", Texts.commit(x, pattern, "" + want), 0);
        check.due(pattern + " is nothing else", Texts.commit(x, pattern, "" + (want + 1) % 256), 6);
        check.due(pattern + " in a replacement", Texts.commit(x, want + " not not not not", pattern), 0);
    }

    private static void dueFolded(Check check, String word, String operands, int want) {
        PeepholeRules x = States.fresh();
        String variables = word.equals("not") || word.equals("neg") ? "v0 " : "v0 v1 ";
        Texts.accept(x, variables.replace('v', 'k') + word, variables + word);
        Texts.output(x, operands + " " + word);
        check.due(operands + " " + word + " is folded", x.optimize(), 1);
        check.due(operands + " " + word + " folded", Texts.shape(x, 0), "" + want);
    }

    private static void binary(Check check, int kind, int[][] rows) {
        for (int[] row : rows) {
            String operands = row[0] + " " + row[1];
            String text = operands + " " + WORDS[kind];
            check.due(text + " of inputs", ofInputs(kind).eval(0, row[0] + 256 * row[1], false), row[2]);
            dueInRule(check, text, row[2]);
            dueFolded(check, WORDS[kind], operands, row[2]);
        }
    }

    private static void unary(Check check, int kind, int[][] rows) {
        for (int[] row : rows) {
            String text = row[0] + " " + WORDS[kind];
            check.due(text + " of inputs", ofInputs(kind).eval(0, row[0], false), row[1]);
            dueInRule(check, text, row[1]);
            dueFolded(check, WORDS[kind], "" + row[0], row[1]);
        }
    }

    private static void leaves(Check check) {
        for (int value : new int[] {0, 1, 127, 128, 254, 255}) {
            PeepholeRules x = States.fresh();
            Texts.output(x, "" + value);
            check.due("CONST " + value, x.eval(0, -1 - value, false), value);
            for (int i = 0; i < 4; i++) {
                PeepholeRules y = States.fresh();
                Texts.output(y, "a" + i);
                check.due("ARG " + i, y.eval(0, value << 8 * i, false), value);
                check.due("ARG " + i + " beside the others", y.eval(0, ~(value << 8 * i), false), 255 - value);
            }
        }
    }

    private static void variables(Check check) {
        PeepholeRules x = States.fresh();
        check.due("VAR 0", Texts.commit(x, "v0 v1 0 and add", "v0"), 0);
        check.due("VAR 1", Texts.commit(x, "v0 0 and v1 add", "v1"), 0);
        check.due("VAR 1 for VAR 0", Texts.commit(x, "v0 v1 0 and add", "v1"), 6);
        check.due("CVAR 0", Texts.commit(x, "k0 v1 0 and add", "v0"), 0);
        check.due("CVAR 1", Texts.commit(x, "v0 0 and k1 add", "v1"), 0);
        check.due("CVAR 1 for VAR 0", Texts.commit(x, "v0 0 and k1 add", "v0"), 6);
        PeepholeRules y = States.fresh();
        Texts.accept(y, "k0 k1 sub", "v0 v1 sub");
        Texts.output(y, "0 255 sub");
        y.optimize();
        check.due("their bound values", Texts.shape(y, 0), "1");
    }
}
