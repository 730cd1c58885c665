import java.io.IOException;

final class Promise11CountOpTest {
    public static void main(String[] args) throws IOException {
        Sentences document = new Sentences("Promise 11");
        document.test("answers the number of live nodes of kind op for op in 1..12, CONST and ARG included",
            Promise11CountOpTest::everyKind);
        document.test("the number of live nodes", Promise11CountOpTest::onlyLiveNodes);
        document.test("or -1 if op is outside 1..12", Promise11CountOpTest::outside);
        document.test("It changes nothing.", Promise11CountOpTest::changesNothing);
        document.finish();
    }

    private static void everyKind(Check check) {
        for (int kind = 1; kind <= 12; kind++) {
            PeepholeRules x = States.fresh();
            x.addNode(12, 0, 0);
            x.addNode(11, 3, 0);
            x.addOutput(0);
            x.addOutput(1);
            x.addOutput(x.addNode(kind, 0, 1));
            x.addOutput(x.addNode(kind, 1, 0));
            for (int op = 1; op <= 12; op++) {
                int want = (op >= 11 ? 1 : 0) + (op == kind ? 2 : 0);
                check.due("countOp " + op + " beside " + kind, x.countOp(op), want);
            }
            x.optimize();
            check.due("OPTIMIZED, countOp " + kind, x.countOp(kind), kind >= 11 ? 3 : 2);
        }
        PeepholeRules all = new PeepholeRules(32, 1);
        int n = all.addNode(12, 0, 0);
        for (int i = 1; i < 32; i++) {
            n = all.addNode(9, n, 0);
        }
        all.addOutput(n);
        check.due("31 of one kind", all.countOp(9), 31);
    }

    private static void onlyLiveNodes(Check check) {
        PeepholeRules x = States.fresh();
        Texts.nodes(x, "a0 not not");
        check.due("no output", x.countOp(9), 0);
        check.due("no live ARG", x.countOp(12), 0);
        x.addOutput(1);
        check.due("one NOT is live", x.countOp(9), 1);
        x.addOutput(2);
        check.due("both are live", x.countOp(9), 2);
        x.addOutput(2);
        check.due("a shared node counts once", x.countOp(9), 2);
        PeepholeRules y = States.fresh();
        int n = Texts.nodes(y, "a0 not");
        y.addOutput(y.addNode(1, n, n));
        check.due("also as both operands", y.countOp(9), 1);
        PeepholeRules z = States.fresh();
        Texts.accept(z, "v0 2 mul", "v0 v0 add");
        Texts.output(z, "a0 2 mul a1 2 mul xor");
        check.due("MUL before", z.countOp(3), 2);
        z.optimize();
        check.due("MUL after", z.countOp(3), 0);
        check.due("ADD after", z.countOp(1), 2);
        check.due("CONST after", z.countOp(11), 0);
        check.due("ARG after", z.countOp(12), 2);
        z.clearDag();
        check.due("ADD, cleared", z.countOp(1), 0);
    }

    private static void outside(Check check) {
        int[] odd = {Integer.MIN_VALUE, -256, -12, -1, 0, 13, 14, 15, 256, 257, 268, Integer.MAX_VALUE};
        States.all().forEach((name, made) -> {
            PeepholeRules x = made.get();
            for (int op : odd) {
                check.due(name + ", countOp " + op, x.countOp(op), -1);
            }
            check.due(name + ", the first inside", x.countOp(1) >= 0, true);
            check.due(name + ", the last inside", x.countOp(12) >= 0, true);
        });
    }

    private static void changesNothing(Check check) {
        States.dueUnchangedInAll(check, "countOp", x -> {
            for (int op = -1; op <= 15; op++) {
                x.countOp(op);
            }
        });
    }
}
