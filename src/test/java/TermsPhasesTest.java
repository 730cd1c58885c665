import java.io.IOException;

final class TermsPhasesTest {
    public static void main(String[] args) throws IOException {
        Sentences document = new Sentences("Phases");
        document.test("The BUILDING phase holds at the start and after clearDag().", TermsPhasesTest::building);
        document.test("The OPTIMIZED phase begins with the first optimize() after that.", TermsPhasesTest::optimized);
        document.finish();
    }

    private static void dueBuilding(Check check, String when, PeepholeRules x) {
        check.due(when + ", phase", x.stat(7), 0);
        check.due(when + ", a node is taken", x.addNode(12, 0, 0), 0);
        check.due(when + ", an output is taken", x.addOutput(0), 0);
        check.due(when + ", phase still", x.stat(7), 0);
    }

    private static void dueOptimized(Check check, String when, PeepholeRules x) {
        check.due(when + ", phase", x.stat(7), 1);
        check.due(when + ", a node is refused", x.addNode(12, 0, 0), -1);
        check.due(when + ", an output is refused", x.addOutput(0), -1);
    }

    private static void building(Check check) {
        dueBuilding(check, "at the start", States.fresh());
        dueBuilding(check, "after clearDag", States.cleared());
        PeepholeRules x = States.drafted(States.fresh());
        x.ruleCommit();
        x.ruleBegin();
        dueBuilding(check, "after calls about rules", x);
        PeepholeRules y = States.built();
        y.clearDag();
        dueBuilding(check, "after clearDag while building", y);
    }

    private static void optimized(Check check) {
        dueOptimized(check, "after optimize", States.optimized());
        PeepholeRules empty = States.fresh();
        empty.optimize();
        dueOptimized(check, "with an empty DAG", empty);
        PeepholeRules x = States.optimized();
        x.optimize();
        dueOptimized(check, "after a second optimize", x);
        States.drafted(x);
        x.ruleCommit();
        dueOptimized(check, "after a new rule", x);
        x.clearDag();
        dueBuilding(check, "cleared", x);
        x.optimize();
        dueOptimized(check, "after the first optimize since", x);
    }
}
