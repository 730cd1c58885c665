// Tells how many free nodes a rule asks for, by objects that have just as many, and one fewer.
final class Room {
    private static final int MAX_NODES = 20;

    private Room() {
    }

    private static int applications(int live, String pattern, String replacement, String expression) {
        PeepholeRules x = new PeepholeRules(MAX_NODES, 4);
        Texts.accept(x, pattern, replacement);
        Texts.output(x, expression);
        // A chain that no rule here matches takes the other nodes.
        x.addOutput(Texts.chain(x, 10, x.addNode(12, 3, 0), live));
        if (x.stat(0) != live) {
            throw new IllegalStateException("not " + live + " live nodes");
        }
        return x.optimize();
    }

    static void dueNeeded(Check check, int needed, String pattern, String replacement, String expression) {
        String rule = pattern + " -> " + replacement;
        int live = MAX_NODES - needed;
        check.due(rule + " with room for " + needed, applications(live, pattern, replacement, expression), 1);
        if (needed > 0) {
            check.due(rule + " with one fewer", applications(live + 1, pattern, replacement, expression), 0);
        }
    }
}
