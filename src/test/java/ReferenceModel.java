import java.util.ArrayList;
import java.util.HashMap;
import java.util.IdentityHashMap;
import java.util.LinkedHashSet;
import java.util.List;
import java.util.Map;
import java.util.Set;

// The document written a second time, with objects, collections and recursion, to compare answers with.
final class ReferenceModel {
    private static final class Node {
        final int kind;
        final int value;
        Node a;
        Node b;

        Node(int kind, int value, Node a, Node b) {
            this.kind = kind;
            this.value = value;
            this.a = a;
            this.b = b;
        }

        List<Node> operands() {
            List<Node> list = new ArrayList<>();
            if (a != null) {
                list.add(a);
            }
            if (b != null) {
                list.add(b);
            }
            return list;
        }
    }

    private static final class Tree {
        final List<Node> entered = new ArrayList<>();
        final List<Node> pending = new ArrayList<>();

        boolean append(int kind, int value, boolean allowsCvar) {
            boolean allowed = kind >= 1 && kind <= 11 || kind == 13 || kind == 14 && allowsCvar;
            if (entered.size() == 8 || !allowed) {
                return false;
            }
            if (kind == 11 && (value < 0 || value > 255) || kind >= 13 && value != 0 && value != 1) {
                return false;
            }
            Node b = null;
            Node a = null;
            if (kind <= 10) {
                if (pending.size() < (kind <= 8 ? 2 : 1)) {
                    return false;
                }
                b = kind <= 8 ? pending.remove(pending.size() - 1) : null;
                a = pending.remove(pending.size() - 1);
            }
            Node node = new Node(kind, kind <= 10 ? 0 : value, a, b);
            entered.add(node);
            pending.add(node);
            return true;
        }

        Node root() {
            return entered.get(entered.size() - 1);
        }

        boolean names(int kind, int j) {
            return entered.stream().anyMatch(p -> p.kind == kind && p.value == j);
        }
    }

    private static final class Rule {
        final Tree pattern = new Tree();
        final Tree replacement = new Tree();
        int rel = 0;
        int j = 0;
        int k = 0;
        int uses = 0;

        boolean occurs(int variable) {
            return pattern.names(13, variable) || pattern.names(14, variable);
        }

        boolean holds(int[] v) {
            switch (rel) {
                case 0:
                    return true;
                case 1:
                    return v[j] == k;
                case 2:
                    return v[j] != k;
                case 3:
                    return v[j] < k;
                default:
                    return v[j] >= k;
            }
        }

        boolean isConstant(Node p) {
            if (p.kind >= 11) {
                return p.kind == 11 || pattern.names(14, p.value);
            }
            return p.operands().stream().allMatch(this::isConstant);
        }

        List<Node> maximal() {
            List<Node> found = new ArrayList<>();
            collectMaximal(replacement.root(), found);
            return found;
        }

        private void collectMaximal(Node p, List<Node> found) {
            if (isConstant(p)) {
                found.add(p);
                return;
            }
            for (Node operand : p.operands()) {
                collectMaximal(operand, found);
            }
        }

        int patternWeight() {
            return pattern.entered.stream().mapToInt(p -> weight(p.kind)).sum();
        }

        int replacementWeight() {
            return replacement.entered.stream().filter(p -> !isConstant(p)).mapToInt(p -> weight(p.kind)).sum();
        }

        long newNodes() {
            return replacement.entered.stream().filter(p -> !isConstant(p)).count()
                + maximal().stream().filter(p -> p.kind != 13).count();
        }
    }

    private final int maxNodes;
    private final int maxRules;
    private final List<Rule> rules = new ArrayList<>();
    private Rule draft = new Rule();
    private int counterexample = -1;
    private List<Node> nodes = new ArrayList<>();
    private List<Node> outputs = new ArrayList<>();
    private List<Node> originalOutputs = null;
    private int applications = 0;

    ReferenceModel(int maxNodes, int maxRules) {
        this.maxNodes = Math.min(32, Math.max(8, maxNodes));
        this.maxRules = Math.min(16, Math.max(1, maxRules));
    }

    private static int weight(int kind) {
        return kind == 3 ? 3 : kind <= 10 ? 1 : 0;
    }

    static int meaning(int kind, int a, int b) {
        switch (kind) {
            case 1:
                return (a + b) % 256;
            case 2:
                return (a - b + 256) % 256;
            case 3:
                return a * b % 256;
            case 4:
                return a & b;
            case 5:
                return a | b;
            case 6:
                return a ^ b;
            case 7:
                return b < 8 ? (a << b) % 256 : 0;
            case 8:
                return b < 8 ? a >> b : 0;
            case 9:
                return 255 - a;
            case 10:
                return (256 - a) % 256;
            default:
                throw new IllegalStateException();
        }
    }

    private static int treeValue(Node p, int[] v) {
        if (p.kind == 11) {
            return p.value;
        }
        if (p.kind >= 13) {
            return v[p.value];
        }
        return meaning(p.kind, treeValue(p.a, v), p.b == null ? 0 : treeValue(p.b, v));
    }

    private static int dagValue(Node n, int args, Map<Node, Integer> known) {
        Integer old = known.get(n);
        if (old != null) {
            return old;
        }
        int value;
        if (n.kind == 11) {
            value = n.value;
        } else if (n.kind == 12) {
            value = (args >>> 8 * n.value) & 255;
        } else {
            int a = dagValue(n.a, args, known);
            value = meaning(n.kind, a, n.b == null ? 0 : dagValue(n.b, args, known));
        }
        known.put(n, value);
        return value;
    }

    // Node has no equals of its own, so a LinkedHashSet tells nodes apart by identity.
    private static Set<Node> postorder(List<Node> roots) {
        Set<Node> done = new LinkedHashSet<>();
        for (Node root : roots) {
            complete(root, done);
        }
        return done;
    }

    private static void complete(Node n, Set<Node> done) {
        if (!done.contains(n)) {
            for (Node operand : n.operands()) {
                complete(operand, done);
            }
            done.add(n);
        }
    }

    private static int cost(List<Node> roots) {
        return postorder(roots).stream().mapToInt(n -> weight(n.kind)).sum();
    }

    void ruleBegin() {
        draft = new Rule();
    }

    boolean rulePat(int kind, int value) {
        return draft.pattern.append(kind, value, true);
    }

    boolean ruleRep(int kind, int value) {
        return draft.replacement.append(kind, value, false);
    }

    boolean rulePre(int rel, int j, int k) {
        if (rel < 0 || rel > 4 || rel > 0 && (j < 0 || j > 1 || k < 0 || k > 255)) {
            return false;
        }
        draft.rel = rel;
        draft.j = rel == 0 ? 0 : j;
        draft.k = rel == 0 ? 0 : k;
        return true;
    }

    int ruleCommit() {
        counterexample = -1;
        int verdict = judge(draft);
        if (verdict == 0) {
            rules.add(draft);
        }
        draft = new Rule();
        return verdict;
    }

    private int judge(Rule rule) {
        if (rules.size() == maxRules) {
            return 1;
        }
        if (rule.pattern.pending.size() != 1 || rule.replacement.pending.size() != 1
            || rule.pattern.root().kind >= 11) {
            return 2;
        }
        for (int j = 0; j <= 1; j++) {
            if (rule.pattern.names(13, j) && rule.pattern.names(14, j)
                || rule.replacement.names(13, j) && !rule.occurs(j)) {
                return 3;
            }
        }
        if (rule.rel != 0 && !rule.pattern.names(14, rule.j)) {
            return 4;
        }
        if (rule.replacementWeight() >= rule.patternWeight()) {
            return 5;
        }
        int[] v = new int[2];
        int last0 = rule.occurs(0) ? 255 : 0;
        int last1 = rule.occurs(1) ? 255 : 0;
        for (v[0] = 0; v[0] <= last0; v[0]++) {
            for (v[1] = 0; v[1] <= last1; v[1]++) {
                if (rule.holds(v)
                    && treeValue(rule.pattern.root(), v) != treeValue(rule.replacement.root(), v)) {
                    counterexample = v[0] + 256 * v[1];
                    return 6;
                }
            }
        }
        return 0;
    }

    private boolean isNode(int n) {
        return n >= 0 && n < nodes.size();
    }

    int addNode(int kind, int a, int b) {
        if (originalOutputs != null || nodes.size() == maxNodes || kind < 1 || kind > 12) {
            return -1;
        }
        if (kind == 12 && (a < 0 || a > 3) || kind <= 10 && !isNode(a) || kind <= 8 && !isNode(b)) {
            return -1;
        }
        if (kind >= 11) {
            nodes.add(new Node(kind, a & 255, null, null));
        } else {
            nodes.add(new Node(kind, 0, nodes.get(a), kind <= 8 ? nodes.get(b) : null));
        }
        return nodes.size() - 1;
    }

    int addOutput(int n) {
        if (originalOutputs != null || outputs.size() == 4 || !isNode(n)) {
            return -1;
        }
        outputs.add(nodes.get(n));
        return outputs.size() - 1;
    }

    private static Node copy(Node n, Map<Node, Node> copies) {
        if (n == null) {
            return null;
        }
        Node old = copies.get(n);
        if (old == null) {
            old = new Node(n.kind, n.value, copy(n.a, copies), copy(n.b, copies));
            copies.put(n, old);
        }
        return old;
    }

    int optimize() {
        if (originalOutputs == null) {
            originalOutputs = new ArrayList<>();
            Map<Node, Node> copies = new IdentityHashMap<>();
            for (Node output : outputs) {
                originalOutputs.add(copy(output, copies));
            }
        }
        int count = 0;
        while (applyOne()) {
            count++;
        }
        applications += count;
        return count;
    }

    private boolean applyOne() {
        Set<Node> live = postorder(outputs);
        for (Node n : live) {
            for (Rule rule : rules) {
                Map<Integer, Node> bound = new HashMap<>();
                if (n.kind <= 10 && matches(rule, n, live, bound)) {
                    apply(rule, n, live, bound);
                    rule.uses++;
                    return true;
                }
            }
        }
        return false;
    }

    private boolean matches(Rule rule, Node n, Set<Node> live, Map<Integer, Node> bound) {
        if (!fits(rule.pattern.root(), n, true, live, bound)) {
            return false;
        }
        return rule.holds(boundValues(bound)) && live.size() + rule.newNodes() <= maxNodes;
    }

    private static int[] boundValues(Map<Integer, Node> bound) {
        int[] v = new int[2];
        bound.forEach((j, n) -> v[j] = n.kind == 11 ? n.value : 999);
        return v;
    }

    private int uses(Node n, Set<Node> live) {
        int count = 0;
        for (Node user : live) {
            count += user.a == n ? 1 : 0;
            count += user.b == n ? 1 : 0;
        }
        for (Node output : outputs) {
            count += output == n ? 1 : 0;
        }
        return count;
    }

    private boolean fits(Node p, Node n, boolean isRoot, Set<Node> live, Map<Integer, Node> bound) {
        if (p.kind == 11) {
            return n.kind == 11 && n.value == p.value;
        }
        if (p.kind >= 13) {
            if (p.kind == 14 && n.kind != 11) {
                return false;
            }
            bound.putIfAbsent(p.value, n);
            return bound.get(p.value) == n;
        }
        return n.kind == p.kind && (isRoot || uses(n, live) == 1) && fits(p.a, n.a, false, live, bound)
            && (p.b == null || fits(p.b, n.b, false, live, bound));
    }

    private void apply(Rule rule, Node root, Set<Node> live, Map<Integer, Node> bound) {
        Node built = build(rule, rule.replacement.root(), bound);
        for (Node n : live) {
            n.a = n.a == root ? built : n.a;
            n.b = n.b == root ? built : n.b;
        }
        outputs.replaceAll(output -> output == root ? built : output);
    }

    private Node build(Rule rule, Node p, Map<Integer, Node> bound) {
        if (p.kind == 13) {
            return bound.get(p.value);
        }
        if (rule.isConstant(p)) {
            return new Node(11, treeValue(p, boundValues(bound)), null, null);
        }
        Node a = build(rule, p.a, bound);
        return new Node(p.kind, 0, a, p.b == null ? null : build(rule, p.b, bound));
    }

    void clearDag() {
        nodes = new ArrayList<>();
        outputs = new ArrayList<>();
        originalOutputs = null;
        applications = 0;
        rules.forEach(rule -> rule.uses = 0);
    }

    int stat(int which) {
        switch (which) {
            case 0:
                return postorder(outputs).size();
            case 1:
                return cost(outputs);
            case 2:
                return cost(originalOutputs == null ? outputs : originalOutputs);
            case 3:
                return applications;
            case 4:
                return rules.size();
            case 5:
                return counterexample;
            case 6:
                return outputs.size();
            case 7:
                return originalOutputs == null ? 0 : 1;
            case 8:
                return originalOutputs == null ? nodes.size() : postorder(outputs).size();
            default:
                return -1;
        }
    }

    int countOp(int op) {
        return op < 1 || op > 12 ? -1 : (int) postorder(outputs).stream().filter(n -> n.kind == op).count();
    }

    int ruleUses(int r) {
        return r < 0 || r >= rules.size() ? -1 : rules.get(r).uses;
    }

    int eval(int k, int args, boolean original) {
        if (k < 0 || k >= outputs.size()) {
            return -1;
        }
        List<Node> roots = original && originalOutputs != null ? originalOutputs : outputs;
        return dagValue(roots.get(k), args, new IdentityHashMap<>());
    }

    int nodeAt(int k, int path, int depth) {
        if (k < 0 || k >= outputs.size() || depth < 0 || depth > 8) {
            return -1;
        }
        Node n = outputs.get(k);
        for (int i = 0; i < depth && n != null; i++) {
            n = (path >> i) % 2 == 0 ? n.a : n.b;
        }
        return n == null ? -1 : n.kind * 256 + n.value;
    }
}
