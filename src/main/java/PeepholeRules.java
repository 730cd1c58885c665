public final class PeepholeRules {
    public static final int ADD = 1;
    public static final int SUB = 2;
    public static final int MUL = 3;
    public static final int AND = 4;
    public static final int OR = 5;
    public static final int XOR = 6;
    public static final int SHL = 7;
    public static final int SHR = 8;
    public static final int NOT = 9;
    public static final int NEG = 10;
    public static final int CONST = 11;
    public static final int ARG = 12;
    public static final int VAR = 13;
    public static final int CVAR = 14;

    public static final int PRE_NONE = 0;
    public static final int PRE_EQ = 1;
    public static final int PRE_NE = 2;
    public static final int PRE_ULT = 3;
    public static final int PRE_UGE = 4;

    public static final int OK = 0;
    public static final int ERR_FULL = 1;
    public static final int ERR_SHAPE = 2;
    public static final int ERR_VARS = 3;
    public static final int ERR_PRE = 4;
    public static final int ERR_COST = 5;
    public static final int ERR_WRONG = 6;

    public static final int STAT_LIVE_NODES = 0;
    public static final int STAT_LIVE_COST = 1;
    public static final int STAT_ORIG_COST = 2;
    public static final int STAT_APPLICATIONS = 3;
    public static final int STAT_RULES = 4;
    public static final int STAT_COUNTEREXAMPLE = 5;
    public static final int STAT_OUTPUTS = 6;
    public static final int STAT_PHASE = 7;
    public static final int STAT_NODES = 8;

    private static final int LEAST_NODES = 8;
    private static final int MOST_NODES = 32;
    private static final int LEAST_RULES = 1;
    private static final int MOST_RULES = 16;
    private static final int MOST_OUTPUTS = 4;
    private static final int MOST_INPUTS = 4;
    private static final int MOST_DEPTH = 8;
    private static final int VARIABLES = 2;
    private static final int TREE_NODES = 8;

    // The draft stands in the slot behind the last rule, so there is one slot more than rules.
    private static final int RULE_SLOTS = 17;
    private static final int TREES = 34;
    private static final int TREE_SLOTS = 272;
    private static final int PENDING_SLOTS = 16;
    private static final int PATTERN = 0;
    private static final int REPLACEMENT = 1;
    private static final int SIDES = 2;

    // Two graphs share the node arrays: the current one in 0..31, the ORIGINAL in 32..63.
    private static final int NODE_SLOTS = 64;
    private static final int OUTPUT_SLOTS = 8;
    private static final int CURRENT = 0;
    private static final int ORIGINAL = 1;

    private static final int NONE = -1;
    private static final int FREE = 0;

    // A walk pushes and pops each of at most 32 nodes once.
    private static final int WALK_STEPS = 64;
    // The live weight is at most 32 * 3 and each application lowers it; the last search finds nothing.
    private static final int MOST_SEARCHES = 97;

    private final int maxNodes;
    private final int maxRules;

    private int ruleCount = 0;
    private int counterexample = NONE;
    private final int[] preRelation = new int[RULE_SLOTS];
    private final int[] preVariable = new int[RULE_SLOTS];
    private final int[] preConstant = new int[RULE_SLOTS];
    private final int[] roomNeeded = new int[RULE_SLOTS];
    private final int[] useCount = new int[RULE_SLOTS];

    // Rule r has the trees 2 * r (pattern) and 2 * r + 1 (replacement), of 8 slots each.
    private final int[] treeSize = new int[TREES];
    private final int[] treeKind = new int[TREE_SLOTS];
    private final int[] treeValue = new int[TREE_SLOTS];
    private final int[] treeA = new int[TREE_SLOTS];
    private final int[] treeB = new int[TREE_SLOTS];
    private final int[] treeResult = new int[TREE_SLOTS];
    private final boolean[] constantValued = new boolean[TREE_SLOTS];
    private final boolean[] maximal = new boolean[TREE_SLOTS];
    // The DAG node that a pattern node is matched with, or that a replacement node becomes.
    private final int[] counterpart = new int[TREE_SLOTS];
    private final int[] boundNode = new int[VARIABLES];

    private final int[] pending = new int[PENDING_SLOTS];
    private final int[] pendingCount = new int[SIDES];

    private boolean optimized = false;
    private int nodeCount = 0;
    private int outputCount = 0;
    private int applications = 0;
    private final int[] nodeKind = new int[NODE_SLOTS];
    private final int[] nodeValue = new int[NODE_SLOTS];
    private final int[] nodeA = new int[NODE_SLOTS];
    private final int[] nodeB = new int[NODE_SLOTS];
    private final int[] nodeResult = new int[NODE_SLOTS];
    private final int[] nodeUses = new int[NODE_SLOTS];
    private final int[] outputNode = new int[OUTPUT_SLOTS];

    private final boolean[] seen = new boolean[NODE_SLOTS];
    private final int[] order = new int[MOST_NODES];
    private final int[] walkStack = new int[MOST_NODES];

    public PeepholeRules(int maxNodes, int maxRules) {
        this.maxNodes = clamp(maxNodes, LEAST_NODES, MOST_NODES);
        this.maxRules = clamp(maxRules, LEAST_RULES, MOST_RULES);
    }

    public void ruleBegin() {
        emptyDraft();
    }

    public boolean rulePat(int kind, int value) {
        return appendTreeNode(PATTERN, kind, value);
    }

    public boolean ruleRep(int kind, int value) {
        return kind != CVAR && appendTreeNode(REPLACEMENT, kind, value);
    }

    public boolean rulePre(int rel, int j, int k) {
        if (rel < PRE_NONE || rel > PRE_UGE) {
            return false;
        }
        if (rel != PRE_NONE && (!isVariable(j) || !isWord(k))) {
            return false;
        }
        preRelation[ruleCount] = rel;
        preVariable[ruleCount] = j;
        preConstant[ruleCount] = k;
        return true;
    }

    public int ruleCommit() {
        counterexample = NONE;
        int verdict = judgeDraft();
        if (verdict == OK) {
            roomNeeded[ruleCount] = countRoomNeeded(ruleCount);
            useCount[ruleCount] = 0;
            ruleCount++;
        }
        emptyDraft();
        return verdict;
    }

    public int addNode(int kind, int a, int b) {
        if (optimized || nodeCount == maxNodes || kind < ADD || kind > ARG) {
            return NONE;
        }
        if (kind == ARG && (a < 0 || a >= MOST_INPUTS)) {
            return NONE;
        }
        int operands = arity(kind);
        if (operands >= 1 && !isAddedNode(a)) {
            return NONE;
        }
        if (operands == 2 && !isAddedNode(b)) {
            return NONE;
        }
        int n = nodeCount;
        nodeCount++;
        if (operands == 0) {
            setNode(n, kind, a & 255, NONE, NONE);
        } else {
            setNode(n, kind, 0, a, operands == 2 ? b : NONE);
        }
        return n;
    }

    public int addOutput(int n) {
        if (optimized || outputCount == MOST_OUTPUTS || !isAddedNode(n)) {
            return NONE;
        }
        outputNode[outputCount] = n;
        outputCount++;
        return outputCount - 1;
    }

    public int optimize() {
        if (!optimized) {
            keepOriginal();
            optimized = true;
        }
        int before = applications;
        boolean applied = true;
        for (int search = 0; search < MOST_SEARCHES && applied; search++) {
            applied = applyFirstMatch();
        }
        return applications - before;
    }

    public void clearDag() {
        optimized = false;
        nodeCount = 0;
        outputCount = 0;
        applications = 0;
        for (int r = 0; r < RULE_SLOTS; r++) {
            useCount[r] = 0;
        }
    }

    public int stat(int which) {
        switch (which) {
            case STAT_LIVE_NODES:
                return listLive(CURRENT);
            case STAT_LIVE_COST:
                return liveCost(CURRENT);
            case STAT_ORIG_COST:
                return liveCost(optimized ? ORIGINAL : CURRENT);
            case STAT_APPLICATIONS:
                return applications;
            case STAT_RULES:
                return ruleCount;
            case STAT_COUNTEREXAMPLE:
                return counterexample;
            case STAT_OUTPUTS:
                return outputCount;
            case STAT_PHASE:
                return optimized ? 1 : 0;
            case STAT_NODES:
                return optimized ? listLive(CURRENT) : nodeCount;
            default:
                return NONE;
        }
    }

    public int countOp(int op) {
        if (op < ADD || op > ARG) {
            return NONE;
        }
        int live = listLive(CURRENT);
        int count = 0;
        for (int i = 0; i < live; i++) {
            if (nodeKind[order[i]] == op) {
                count++;
            }
        }
        return count;
    }

    public int ruleUses(int r) {
        return r < 0 || r >= ruleCount ? NONE : useCount[r];
    }

    public int eval(int k, int args, boolean original) {
        if (!isOutput(k)) {
            return NONE;
        }
        int graph = original && optimized ? ORIGINAL : CURRENT;
        int live = listLive(graph);
        for (int i = 0; i < live; i++) {
            evaluateNode(order[i], args);
        }
        return nodeResult[outputNode[graph * MOST_OUTPUTS + k]];
    }

    public int nodeAt(int k, int path, int depth) {
        if (!isOutput(k) || depth < 0 || depth > MOST_DEPTH) {
            return NONE;
        }
        int n = outputNode[k];
        for (int i = 0; i < depth; i++) {
            n = ((path >>> i) & 1) == 0 ? nodeA[n] : nodeB[n];
            if (n == NONE) {
                return NONE;
            }
        }
        return nodeKind[n] * 256 + nodeValue[n];
    }

    private static int clamp(int value, int least, int greatest) {
        if (value < least) {
            return least;
        }
        return value > greatest ? greatest : value;
    }

    private static int arity(int kind) {
        if (kind >= ADD && kind <= SHR) {
            return 2;
        }
        return kind == NOT || kind == NEG ? 1 : 0;
    }

    private static int weight(int kind) {
        if (kind == MUL) {
            return 3;
        }
        return arity(kind) > 0 ? 1 : 0;
    }

    private static boolean isVariable(int j) {
        return j >= 0 && j < VARIABLES;
    }

    private static boolean isWord(int value) {
        return value >= 0 && value <= 255;
    }

    private boolean isAddedNode(int n) {
        return n >= 0 && n < nodeCount;
    }

    private boolean isOutput(int k) {
        return k >= 0 && k < outputCount;
    }

    private static int compute(int kind, int a, int b) {
        switch (kind) {
            case ADD:
                return (a + b) & 255;
            case SUB:
                return (a - b) & 255;
            case MUL:
                return (a * b) & 255;
            case AND:
                return a & b;
            case OR:
                return a | b;
            case XOR:
                return a ^ b;
            case SHL:
                return b < 8 ? (a << b) & 255 : 0;
            case SHR:
                return b < 8 ? a >> b : 0;
            case NOT:
                return a ^ 255;
            case NEG:
                return (0 - a) & 255;
            default:
                return 0;
        }
    }

    private static int treeOf(int rule, int side) {
        return rule * SIDES + side;
    }

    private static int firstOf(int tree) {
        return tree * TREE_NODES;
    }

    private int endOf(int tree) {
        return tree * TREE_NODES + treeSize[tree];
    }

    private void emptyDraft() {
        for (int side = 0; side < SIDES; side++) {
            int tree = treeOf(ruleCount, side);
            treeSize[tree] = 0;
            pendingCount[side] = 0;
        }
        preRelation[ruleCount] = PRE_NONE;
    }

    private static boolean isTreeNode(int kind, int value) {
        if (kind == CONST) {
            return isWord(value);
        }
        if (kind == VAR || kind == CVAR) {
            return isVariable(value);
        }
        return arity(kind) > 0;
    }

    private boolean appendTreeNode(int side, int kind, int value) {
        int tree = treeOf(ruleCount, side);
        int operands = arity(kind);
        int count = pendingCount[side];
        if (treeSize[tree] == TREE_NODES || !isTreeNode(kind, value) || count < operands) {
            return false;
        }
        int p = endOf(tree);
        int oldest = side * TREE_NODES + count - operands;
        treeKind[p] = kind;
        treeValue[p] = operands == 0 ? value : 0;
        treeA[p] = operands >= 1 ? pending[oldest] : NONE;
        treeB[p] = operands == 2 ? pending[oldest + 1] : NONE;
        treeSize[tree]++;
        pending[oldest] = p;
        pendingCount[side] = count - operands + 1;
        return true;
    }

    private int judgeDraft() {
        if (ruleCount == maxRules) {
            return ERR_FULL;
        }
        if (!draftHasShape()) {
            return ERR_SHAPE;
        }
        if (!variablesFit(ruleCount)) {
            return ERR_VARS;
        }
        if (!preconditionFits(ruleCount)) {
            return ERR_PRE;
        }
        markConstantValued(ruleCount);
        markMaximal(ruleCount);
        if (replacementWeight(ruleCount) >= patternWeight(ruleCount)) {
            return ERR_COST;
        }
        counterexample = firstFailure(ruleCount);
        return counterexample == NONE ? OK : ERR_WRONG;
    }

    private boolean draftHasShape() {
        // An empty tree has nothing pending, so this refuses it too.
        if (pendingCount[PATTERN] != 1 || pendingCount[REPLACEMENT] != 1) {
            return false;
        }
        int tree = treeOf(ruleCount, PATTERN);
        int end = endOf(tree);
        return arity(treeKind[end - 1]) > 0;
    }

    private boolean occurs(int tree, int kind, int j) {
        int end = endOf(tree);
        for (int p = firstOf(tree); p < end; p++) {
            if (treeKind[p] == kind && treeValue[p] == j) {
                return true;
            }
        }
        return false;
    }

    private boolean variablesFit(int rule) {
        int pattern = treeOf(rule, PATTERN);
        int replacement = treeOf(rule, REPLACEMENT);
        for (int j = 0; j < VARIABLES; j++) {
            boolean asVar = occurs(pattern, VAR, j);
            boolean asCvar = occurs(pattern, CVAR, j);
            if (asVar && asCvar) {
                return false;
            }
            if (!asVar && !asCvar && occurs(replacement, VAR, j)) {
                return false;
            }
        }
        return true;
    }

    private boolean preconditionFits(int rule) {
        int pattern = treeOf(rule, PATTERN);
        return preRelation[rule] == PRE_NONE || occurs(pattern, CVAR, preVariable[rule]);
    }

    private void markConstantValued(int rule) {
        int pattern = treeOf(rule, PATTERN);
        int replacement = treeOf(rule, REPLACEMENT);
        int end = endOf(replacement);
        for (int p = firstOf(replacement); p < end; p++) {
            if (treeKind[p] == VAR) {
                constantValued[p] = occurs(pattern, CVAR, treeValue[p]);
            } else {
                constantValued[p] = (treeA[p] == NONE || constantValued[treeA[p]])
                    && (treeB[p] == NONE || constantValued[treeB[p]]);
            }
        }
    }

    private void markMaximal(int rule) {
        int tree = treeOf(rule, REPLACEMENT);
        int end = endOf(tree);
        // Parents come after their operands, so the root's own mark is made first.
        maximal[end - 1] = constantValued[end - 1];
        for (int p = end - 1; p >= firstOf(tree); p--) {
            if (treeA[p] != NONE) {
                maximal[treeA[p]] = !constantValued[p] && constantValued[treeA[p]];
            }
            if (treeB[p] != NONE) {
                maximal[treeB[p]] = !constantValued[p] && constantValued[treeB[p]];
            }
        }
    }

    private int patternWeight(int rule) {
        int tree = treeOf(rule, PATTERN);
        int end = endOf(tree);
        int sum = 0;
        for (int p = firstOf(tree); p < end; p++) {
            sum += weight(treeKind[p]);
        }
        return sum;
    }

    private int replacementWeight(int rule) {
        int tree = treeOf(rule, REPLACEMENT);
        int end = endOf(tree);
        int sum = 0;
        for (int p = firstOf(tree); p < end; p++) {
            if (!constantValued[p]) {
                sum += weight(treeKind[p]);
            }
        }
        return sum;
    }

    private int countRoomNeeded(int rule) {
        int tree = treeOf(rule, REPLACEMENT);
        int end = endOf(tree);
        int count = 0;
        for (int p = firstOf(tree); p < end; p++) {
            if (!constantValued[p] || (maximal[p] && treeKind[p] != VAR)) {
                count++;
            }
        }
        return count;
    }

    private int lastValueOf(int rule, int j) {
        int pattern = treeOf(rule, PATTERN);
        return occurs(pattern, VAR, j) || occurs(pattern, CVAR, j) ? 255 : 0;
    }

    private int firstFailure(int rule) {
        int pattern = treeOf(rule, PATTERN);
        int replacement = treeOf(rule, REPLACEMENT);
        int last0 = lastValueOf(rule, 0);
        int last1 = lastValueOf(rule, 1);
        for (int v0 = 0; v0 <= last0; v0++) {
            for (int v1 = 0; v1 <= last1; v1++) {
                if (preconditionHolds(rule, v0, v1)
                    && evaluateTree(pattern, v0, v1) != evaluateTree(replacement, v0, v1)) {
                    return v0 + 256 * v1;
                }
            }
        }
        return NONE;
    }

    private boolean preconditionHolds(int rule, int v0, int v1) {
        int v = preVariable[rule] == 0 ? v0 : v1;
        int k = preConstant[rule];
        switch (preRelation[rule]) {
            case PRE_EQ:
                return v == k;
            case PRE_NE:
                return v != k;
            case PRE_ULT:
                return v < k;
            case PRE_UGE:
                return v >= k;
            default:
                return true;
        }
    }

    private int evaluateTree(int tree, int v0, int v1) {
        int end = endOf(tree);
        for (int p = firstOf(tree); p < end; p++) {
            int kind = treeKind[p];
            if (kind == CONST) {
                treeResult[p] = treeValue[p];
            } else if (kind == VAR || kind == CVAR) {
                treeResult[p] = treeValue[p] == 0 ? v0 : v1;
            } else {
                int b = treeB[p] == NONE ? 0 : treeResult[treeB[p]];
                treeResult[p] = compute(kind, treeResult[treeA[p]], b);
            }
        }
        return treeResult[end - 1];
    }

    private void setNode(int n, int kind, int value, int a, int b) {
        nodeKind[n] = kind;
        nodeValue[n] = value;
        nodeA[n] = a;
        nodeB[n] = b;
    }

    // Lists the live nodes of a graph in the document's Order and answers their count; seen marks them.
    private int listLive(int graph) {
        for (int n = 0; n < NODE_SLOTS; n++) {
            seen[n] = false;
        }
        int count = 0;
        for (int k = 0; k < outputCount; k++) {
            int root = outputNode[graph * MOST_OUTPUTS + k];
            if (!seen[root]) {
                count = listBelow(root, count);
            }
        }
        return count;
    }

    private int listBelow(int root, int listed) {
        int count = listed;
        int depth = 1;
        walkStack[0] = root;
        seen[root] = true;
        for (int step = 0; step < WALK_STEPS && depth > 0; step++) {
            int n = walkStack[depth - 1];
            int next = unseenOperand(n);
            if (next == NONE) {
                order[count] = n;
                count++;
                depth--;
            } else {
                walkStack[depth] = next;
                seen[next] = true;
                depth++;
            }
        }
        return count;
    }

    private int unseenOperand(int n) {
        if (nodeA[n] != NONE && !seen[nodeA[n]]) {
            return nodeA[n];
        }
        return nodeB[n] != NONE && !seen[nodeB[n]] ? nodeB[n] : NONE;
    }

    private int liveCost(int graph) {
        int live = listLive(graph);
        int sum = 0;
        for (int i = 0; i < live; i++) {
            sum += weight(nodeKind[order[i]]);
        }
        return sum;
    }

    private void evaluateNode(int n, int args) {
        int kind = nodeKind[n];
        if (kind == CONST) {
            nodeResult[n] = nodeValue[n];
        } else if (kind == ARG) {
            nodeResult[n] = (args >>> (8 * nodeValue[n])) & 255;
        } else {
            int b = nodeB[n] == NONE ? 0 : nodeResult[nodeB[n]];
            nodeResult[n] = compute(kind, nodeResult[nodeA[n]], b);
        }
    }

    private void keepOriginal() {
        for (int n = 0; n < nodeCount; n++) {
            int a = nodeA[n] == NONE ? NONE : nodeA[n] + MOST_NODES;
            int b = nodeB[n] == NONE ? NONE : nodeB[n] + MOST_NODES;
            setNode(n + MOST_NODES, nodeKind[n], nodeValue[n], a, b);
        }
        for (int k = 0; k < outputCount; k++) {
            outputNode[MOST_OUTPUTS + k] = outputNode[k] + MOST_NODES;
        }
    }

    // listLive has marked the live nodes just before.
    private void deleteUnseenNodes() {
        for (int n = 0; n < MOST_NODES; n++) {
            if (!seen[n]) {
                setNode(n, FREE, 0, NONE, NONE);
            }
        }
    }

    private boolean applyFirstMatch() {
        int live = listLive(CURRENT);
        deleteUnseenNodes();
        countUses(live);
        for (int i = 0; i < live; i++) {
            int n = order[i];
            // A pattern's root is no leaf, so no rule matches at a leaf.
            for (int r = 0; r < ruleCount; r++) {
                if (live + roomNeeded[r] <= maxNodes && matches(r, n)) {
                    applyRule(r, n);
                    return true;
                }
            }
        }
        return false;
    }

    private void countUses(int live) {
        for (int i = 0; i < live; i++) {
            nodeUses[order[i]] = 0;
        }
        for (int i = 0; i < live; i++) {
            int n = order[i];
            if (nodeA[n] != NONE) {
                nodeUses[nodeA[n]]++;
            }
            if (nodeB[n] != NONE) {
                nodeUses[nodeB[n]]++;
            }
        }
        for (int k = 0; k < outputCount; k++) {
            nodeUses[outputNode[k]]++;
        }
    }

    private boolean matches(int rule, int root) {
        int tree = treeOf(rule, PATTERN);
        int top = endOf(tree) - 1;
        boundNode[0] = NONE;
        boundNode[1] = NONE;
        counterpart[top] = root;
        for (int p = top; p >= firstOf(tree); p--) {
            int n = counterpart[p];
            boolean fits = treeA[p] == NONE ? leafFits(p, n) : operationFits(p, n, p == top);
            if (!fits) {
                return false;
            }
        }
        int v0 = boundValue(0);
        int v1 = boundValue(1);
        return preconditionHolds(rule, v0, v1);
    }

    private boolean operationFits(int p, int n, boolean isRoot) {
        if (nodeKind[n] != treeKind[p] || (!isRoot && nodeUses[n] != 1)) {
            return false;
        }
        counterpart[treeA[p]] = nodeA[n];
        if (treeB[p] != NONE) {
            counterpart[treeB[p]] = nodeB[n];
        }
        return true;
    }

    private boolean leafFits(int p, int n) {
        int kind = treeKind[p];
        if (kind == CONST) {
            return nodeKind[n] == CONST && nodeValue[n] == treeValue[p];
        }
        if (kind == CVAR && nodeKind[n] != CONST) {
            return false;
        }
        int j = treeValue[p];
        if (boundNode[j] == NONE) {
            boundNode[j] = n;
        }
        return boundNode[j] == n;
    }

    // Only the value of a CONST matters: preconditions and folding never look at any other binding.
    private int boundValue(int j) {
        return boundNode[j] == NONE ? 0 : nodeValue[boundNode[j]];
    }

    private void applyRule(int rule, int root) {
        int tree = treeOf(rule, REPLACEMENT);
        int end = endOf(tree);
        int v0 = boundValue(0);
        int v1 = boundValue(1);
        evaluateTree(tree, v0, v1);
        for (int p = firstOf(tree); p < end; p++) {
            counterpart[p] = buildNode(p);
        }
        redirect(root, counterpart[end - 1]);
        applications++;
        useCount[rule]++;
    }

    private int buildNode(int p) {
        if (treeKind[p] == VAR) {
            return boundNode[treeValue[p]];
        }
        if (constantValued[p] && !maximal[p]) {
            return NONE;
        }
        int n = freeNode();
        if (constantValued[p]) {
            setNode(n, CONST, treeResult[p], NONE, NONE);
        } else {
            int b = treeB[p] == NONE ? NONE : counterpart[treeB[p]];
            setNode(n, treeKind[p], 0, counterpart[treeA[p]], b);
        }
        return n;
    }

    // A match asks for room for all its new nodes, so if no slot before the last is free, the last is.
    private int freeNode() {
        for (int n = 0; n < MOST_NODES - 1; n++) {
            if (nodeKind[n] == FREE) {
                return n;
            }
        }
        return MOST_NODES - 1;
    }

    private void redirect(int from, int to) {
        for (int n = 0; n < MOST_NODES; n++) {
            if (nodeA[n] == from) {
                nodeA[n] = to;
            }
            if (nodeB[n] == from) {
                nodeB[n] = to;
            }
        }
        for (int k = 0; k < outputCount; k++) {
            if (outputNode[k] == from) {
                outputNode[k] = to;
            }
        }
    }
}
