final class Promise13EvalTest {
    public static void main(String[] args) {
        Check check = new Check();
        outputs(check);
        inputs(check);
        operations(check);
        originalAndCurrent(check);
        changesNothing(check);
        check.finish();
    }

    private static void outputs(Check check) {
        PeepholeRules x = new PeepholeRules(16, 8);
        check.due("no output", x.eval(0, 0, false), -1);
        Texts.output(x, "7");
        Texts.output(x, "a0 a1 add");
        for (int round = 0; round < 2; round++) {
            for (int k : new int[] {Integer.MIN_VALUE, -1, 2, 3, 4, 256, Integer.MAX_VALUE}) {
                check.due("output " + k, x.eval(k, 0, false), -1);
                check.due("original output " + k, x.eval(k, 0, true), -1);
            }
            check.due("output 0", x.eval(0, 99, false), 7);
            check.due("output 1", x.eval(1, 0x0203, false), 5);
            check.due("original output 1", x.eval(1, 0x0203, true), 5);
            x.optimize();
        }
    }

    private static void inputs(Check check) {
        PeepholeRules x = new PeepholeRules(16, 8);
        for (int i = 0; i < 4; i++) {
            Texts.output(x, "a" + i);
        }
        int[] words = {0, -1, 0x04030201, 0xff804020, Integer.MIN_VALUE, Integer.MAX_VALUE, 0x80};
        for (int args : words) {
            for (int i = 0; i < 4; i++) {
                long unsigned = args & 0xffffffffL;
                long want = unsigned / (1L << 8 * i) % 256;
                check.due("input " + i + " of " + args, x.eval(i, args, false), want);
                check.due("original input " + i + " of " + args, x.eval(i, args, true), want);
            }
        }
    }

    private static int meaning(int kind, int a, int b) {
        switch (kind) {
            case 1:
                return (a + b) % 256;
            case 2:
                return (256 + a - b) % 256;
            case 3:
                return a * b % 256;
            case 4:
                return a & b;
            case 5:
                return a | b;
            case 6:
                return a ^ b;
            case 7:
                return b >= 8 ? 0 : a * (1 << b) % 256;
            case 8:
                return b >= 8 ? 0 : a / (1 << b);
            case 9:
                return 255 - a;
            default:
                return (256 - a) % 256;
        }
    }

    private static void operations(Check check) {
        for (int kind = 1; kind <= 10; kind++) {
            PeepholeRules x = new PeepholeRules(16, 8);
            x.addNode(12, 0, 0);
            x.addNode(12, 1, 0);
            x.addOutput(x.addNode(kind, 0, 1));
            int wrong = 0;
            for (int a = 0; a <= 255; a++) {
                for (int b = 0; b <= 255; b++) {
                    if (x.eval(0, a | b << 8, false) != meaning(kind, a, b)) {
                        wrong++;
                    }
                }
            }
            check.due("wrong values of kind " + kind, wrong, 0);
        }
    }

    private static void originalAndCurrent(Check check) {
        PeepholeRules x = new PeepholeRules(16, 8);
        Texts.commit(x, "v0 3 mul", "v0 1 shl v0 add");
        Texts.output(x, "a0 3 mul a1 sub");
        Texts.output(x, "a2 not");
        check.due("BUILDING, original", x.eval(0, 0x0104, true), 11);
        x.addNode(11, 9, 0);
        x.addOutput(x.stat(8) - 1);
        check.due("BUILDING, a later output", x.eval(2, 0, true), 9);
        x.optimize();
        for (int i = 0; i < 256; i++) {
            int args = i * 0x01010101 + 0x00130500;
            for (int k = 0; k < 3; k++) {
                check.due("equal at " + args, x.eval(k, args, false), x.eval(k, args, true));
            }
        }
        check.due("value", x.eval(0, 0x0104, false), 11);
        check.due("original value", x.eval(0, 0x0104, true), 11);
        x.clearDag();
        check.due("no original any more", x.eval(0, 0, true), -1);
        Texts.output(x, "a3 neg");
        check.due("the new DAG is the original", x.eval(0, 0x01000000, true), 255);
    }

    private static void changesNothing(Check check) {
        PeepholeRules x = new PeepholeRules(16, 8);
        Texts.commit(x, "v0 not not", "v0");
        Texts.output(x, "a0 not not a1 mul");
        for (int round = 0; round < 2; round++) {
            String before = Texts.state(x);
            x.eval(0, 12345, true);
            x.eval(0, 54321, false);
            x.eval(1, 0, false);
            check.due("state", Texts.state(x), before);
            x.optimize();
        }
    }
}
