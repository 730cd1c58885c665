import java.io.IOException;

final class Promise13EvalTest {
    private static final int LOW = Integer.MIN_VALUE;
    private static final int HIGH = Integer.MAX_VALUE;

    public static void main(String[] args) throws IOException {
        Sentences document = new Sentences("Promise 13");
        document.test("answers the value 0..255 of output k", Promise13EvalTest::values);
        document.test("where input i is (args >>> (8*i)) & 255, for any int args", Promise13EvalTest::inputs);
        document.test("If original is true, the ORIGINAL DAG is evaluated.", Promise13EvalTest::original);
        document.test("In the BUILDING phase the current DAG is evaluated either way.", Promise13EvalTest::building);
        document.test("It answers -1 if k is not an output index (not in 0..output count-1).", Promise13EvalTest::outside);
        document.test("It changes nothing.", Promise13EvalTest::changesNothing);
        document.finish();
    }

    private static void values(Check check) {
        PeepholeRules x = States.fresh();
        Texts.output(x, "0");
        Texts.output(x, "255");
        Texts.output(x, "a0 a1 add");
        Texts.output(x, "a0 a1 sub");
        for (int round = 0; round < 2; round++) {
            check.due("the least", x.eval(0, -1, false), 0);
            check.due("the greatest", x.eval(1, 0, false), 255);
            check.due("255 + 1", x.eval(2, 0x01ff, false), 0);
            check.due("255 + 255", x.eval(2, 0xffff, false), 254);
            check.due("0 - 1", x.eval(3, 0x0100, false), 255);
            x.optimize();
        }
        PeepholeRules deep = new PeepholeRules(32, 1);
        int n = deep.addNode(12, 0, 0);
        for (int i = 1; i < 32; i++) {
            n = deep.addNode(1, n, n);
        }
        deep.addOutput(n);
        deep.addOutput(7);
        check.due("doubled 31 times", deep.eval(0, 255, false), 0);
        check.due("doubled 7 times", deep.eval(1, 255, false), 128);
    }

    private static void inputs(Check check) {
        PeepholeRules x = States.fresh();
        for (int i = 0; i < 4; i++) {
            Texts.output(x, "a" + i);
        }
        int[] words = {0, -1, 1, 0x80, 0xff, 0x100, 0x04030201, 0xff804020, 0x80000000, 0x7f000000, LOW, HIGH, LOW + 1};
        for (int args : words) {
            for (int i = 0; i < 4; i++) {
                long unsigned = args & 0xffffffffL;
                long want = unsigned / (1L << 8 * i) % 256;
                check.due("input " + i + " of " + args, x.eval(i, args, false), want);
                check.due("original input " + i + " of " + args, x.eval(i, args, true), want);
            }
        }
    }

    // Both DAGs compute the same, so known values are asked for where a spoilt ORIGINAL would show.
    private static void original(Check check) {
        PeepholeRules x = States.fresh();
        Texts.accept(x, "v0 3 mul", "v0 1 shl v0 add");
        Texts.accept(x, "k0 k1 add", "v0 v1 add");
        Texts.output(x, "a0 3 mul a1 sub");
        Texts.output(x, "200 100 add");
        check.due("applications", x.optimize(), 2);
        for (int i = 0; i < 256; i++) {
            int args = i * 0x01010101 + 0x00130500;
            check.due("equal at " + args, x.eval(0, args, true), x.eval(0, args, false));
        }
        check.due("value", x.eval(0, 0x0104, true), 11);
        check.due("a constant", x.eval(1, -1, true), 44);
        x.optimize();
        check.due("after a second optimize", x.eval(0, 0x0104, true), 11);
        PeepholeRules full = States.full();
        full.optimize();
        int[] want = {7, 13, 248, 5};
        for (int k = 0; k < 4; k++) {
            check.due("of a full DAG, output " + k, full.eval(k, 0x0907, true), want[k]);
        }
    }

    private static void building(Check check) {
        PeepholeRules x = States.fresh();
        Texts.output(x, "a0 3 mul");
        check.due("at the start", x.eval(0, 4, true), 12);
        check.due("not the original", x.eval(0, 4, false), 12);
        Texts.output(x, "9");
        check.due("a later output", x.eval(1, 0, true), 9);
        x.optimize();
        x.clearDag();
        check.due("cleared, no output", x.eval(0, 4, true), -1);
        Texts.output(x, "a3 neg");
        check.due("the new DAG", x.eval(0, 0x01000004, true), 255);
        check.due("the new DAG, not the original", x.eval(0, 0x01000004, false), 255);
        check.due("no second output any more", x.eval(1, 0, true), -1);
    }

    private static void outside(Check check) {
        int[] never = {LOW, -256, -4, -1, 4, 5, 8, 256, HIGH};
        PeepholeRules x = States.fresh();
        for (int count = 0; count <= 4; count++) {
            for (boolean ofOriginal : new boolean[] {false, true}) {
                for (int k : never) {
                    check.due("output " + k + " of " + count, x.eval(k, 0, ofOriginal), -1);
                }
                for (int k = 0; k < 4; k++) {
                    check.due("output " + k + " of " + count, x.eval(k, 0, ofOriginal), k < count ? 7 : -1);
                }
            }
            x.addOutput(count == 0 ? Texts.nodes(x, "7") : 0);
        }
        x.optimize();
        for (int k : never) {
            check.due("OPTIMIZED, output " + k, x.eval(k, 0, false), -1);
            check.due("OPTIMIZED, original output " + k, x.eval(k, 0, true), -1);
        }
        PeepholeRules y = States.optimized();
        check.due("OPTIMIZED, behind the last", y.eval(2, 0, false), -1);
        check.due("OPTIMIZED, behind the original's last", y.eval(2, 0, true), -1);
    }

    private static void changesNothing(Check check) {
        States.dueUnchangedInAll(check, "eval", x -> {
            for (int k = -1; k <= 4; k++) {
                x.eval(k, 54321, true);
                x.eval(k, -12345, false);
            }
        });
    }
}
