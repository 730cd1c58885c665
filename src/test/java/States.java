import java.util.LinkedHashMap;
import java.util.Map;
import java.util.function.Consumer;
import java.util.function.Supplier;

// Objects in the states that matter, and all that their later answers can tell of them.
final class States {
    static final String EMPTY_TREES =
        "pattern: 8 leaves 0 binary nodes no unary node, replacement: 8 leaves 0 binary nodes no unary node";

    private States() {
    }

    static PeepholeRules fresh() {
        return new PeepholeRules(16, 8);
    }

    // Rules, a counterexample, live and dead nodes and two outputs, but an empty draft.
    static PeepholeRules built() {
        PeepholeRules x = fresh();
        Texts.accept(x, "v0 not not", "v0");
        Texts.acceptIf(x, Texts.pre(4, 1, 8), "v0 k1 shl", "0");
        Texts.commit(x, "v1 neg", "v1");
        Texts.output(x, "a0 not not a1 add");
        Texts.nodes(x, "a3 7 mul");
        Texts.output(x, "a2 9 shl");
        return x;
    }

    static PeepholeRules optimized() {
        PeepholeRules x = built();
        x.optimize();
        return x;
    }

    static PeepholeRules cleared() {
        PeepholeRules x = optimized();
        x.clearDag();
        return x;
    }

    // Every capacity is used up: nodes, rules and outputs.
    static PeepholeRules full() {
        PeepholeRules x = new PeepholeRules(8, 1);
        Texts.accept(x, "v0 not not", "v0");
        Texts.output(x, "a0 not not");
        Texts.output(x, "a1 5 add neg not");
        x.addOutput(1);
        x.addOutput(4);
        return x;
    }

    // With a right rule in the draft, with a precondition that it needs.
    static PeepholeRules drafted(PeepholeRules x) {
        Texts.pattern(x, "v1 k0 add");
        Texts.replacement(x, "v1");
        x.rulePre(1, 0, 0);
        return x;
    }

    // With two subtrees pending in each tree of the draft.
    static PeepholeRules halfDrafted(PeepholeRules x) {
        Texts.pattern(x, "v0 not k1");
        Texts.replacement(x, "v0 v1 3");
        x.ruleRep(1, 0);
        x.rulePre(3, 1, 200);
        return x;
    }

    static PeepholeRules fullDraft(PeepholeRules x) {
        Texts.pattern(x, "v0 not not not not not not not");
        Texts.replacement(x, "v0 1 0 add sub 1 add not");
        return x;
    }

    static Map<String, Supplier<PeepholeRules>> all() {
        Map<String, Supplier<PeepholeRules>> map = new LinkedHashMap<>();
        map.put("a new object", States::fresh);
        map.put("BUILDING", () -> drafted(built()));
        map.put("BUILDING, half a draft", () -> halfDrafted(built()));
        map.put("BUILDING, a full draft", () -> fullDraft(built()));
        map.put("OPTIMIZED", () -> drafted(optimized()));
        map.put("OPTIMIZED, half a draft", () -> halfDrafted(optimized()));
        map.put("cleared", () -> drafted(cleared()));
        map.put("full", () -> drafted(full()));
        return map;
    }

    private static boolean append(PeepholeRules x, boolean toPattern, int kind) {
        return toPattern ? x.rulePat(kind, 0) : x.ruleRep(kind, 0);
    }

    private static int countAppended(PeepholeRules x, boolean toPattern, int kind) {
        int count = 0;
        while (count < 99 && append(x, toPattern, kind)) {
            count++;
        }
        return count;
    }

    // The room and the pending subtrees of both trees; each question spoils the draft, so each has an object of its own.
    static String trees(Supplier<PeepholeRules> made) {
        String text = "";
        for (boolean toPattern : new boolean[] {true, false}) {
            text += toPattern ? "pattern:" : ", replacement:";
            text += " " + countAppended(made.get(), toPattern, 11) + " leaves";
            text += " " + countAppended(made.get(), toPattern, 1) + " binary nodes";
            text += append(made.get(), toPattern, 9) ? " a unary node" : " no unary node";
        }
        return text;
    }

    // All that the object answers from now on, asked in turns of new objects: a query that came before the other calls
    // could hide what an earlier query has spoilt.
    static String future(Supplier<PeepholeRules> made) {
        String text = Texts.state(made.get());
        PeepholeRules committed = made.get();
        text += " commit " + committed.ruleCommit() + Texts.state(committed);
        text += " optimize " + committed.optimize() + Texts.state(committed);
        PeepholeRules optimized = made.get();
        text += " optimize " + optimized.optimize() + Texts.state(optimized);
        PeepholeRules grown = made.get();
        text += " node " + grown.addNode(1, 0, 1) + " outputs " + grown.addOutput(7) + grown.addOutput(5) + Texts.state(grown);
        PeepholeRules cleared = made.get();
        cleared.clearDag();
        Texts.output(cleared, "a0 not not 8 shl 0 add");
        text += " again " + cleared.optimize() + Texts.state(cleared);
        return text;
    }

    static void dueSame(Check check, String what, Supplier<PeepholeRules> got, Supplier<PeepholeRules> want) {
        check.due(what + ", the draft's trees", trees(got), trees(want));
        check.due(what + ", all later answers", future(got), future(want));
    }

    static void dueUnchanged(Check check, String what, Supplier<PeepholeRules> made, Consumer<PeepholeRules> call) {
        Supplier<PeepholeRules> called = () -> {
            PeepholeRules x = made.get();
            call.accept(x);
            return x;
        };
        dueSame(check, what, called, made);
    }

    static void dueUnchangedInAll(Check check, String what, Consumer<PeepholeRules> call) {
        all().forEach((name, made) -> dueUnchanged(check, name + ", " + what, made, call));
    }
}
