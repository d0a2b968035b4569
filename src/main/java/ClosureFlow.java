/**
 * A small analysing compiler for an untyped, call-by-value language of one-argument functions and
 * wrapping ints. README.md tells how to use it.
 */
public final class ClosureFlow {
    public static final int VAR = 0;
    public static final int NUM = 1;
    public static final int LAM = 2;
    public static final int APP = 3;
    public static final int ADD = 4;
    public static final int SUB = 5;
    public static final int IF0 = 6;

    public static final int BAD = -1;
    public static final int CLOSED = -2;
    public static final int UNBOUND = -3;
    public static final int FULL = -4;
    public static final int DEEP = -5;
    public static final int MANY = -6;
    public static final int NOT_READY = -7;

    public static final int INTERPRETER = 0;
    public static final int COMPILED = 1;

    public static final int NOT_RUN = 0;
    public static final int NUMBER = 1;
    public static final int FUNCTION = 2;
    public static final int STUCK = 3;
    public static final int OUT_OF_CALLS = 4;
    public static final int OUT_OF_CLOSURES = 5;

    public static final int ANY_NUMBER = 65536;

    public static final int NO_CALL = 0;
    public static final int DEAD = 1;
    public static final int NEVER = 2;
    public static final int KNOWN = 3;
    public static final int CHOICE = 4;

    public static final int DROPPED = 0;
    public static final int DIRECT = 1;
    public static final int SHARED = 2;

    public static final int MAX_LAMBDAS = 16;
    public static final int MAX_NEST = 5;
    public static final int MAX_LEVEL = 5;

    private static final int MIN_CELLS = 8;
    private static final int MAX_CELLS = 48;
    private static final int MIN_CALLS = 4;
    private static final int MAX_CALLS = 48;
    private static final int MIN_CLOSURES = 4;
    private static final int MAX_CLOSURES = 64;

    private static final int MAX_CHILDREN = 3;
    private static final int CHILD_CELLS = MAX_CELLS * MAX_CHILDREN;

    private static final int ENGINES = 2;
    private static final int RECORD_ITEMS = 5;
    private static final int RECORD_CELLS = ENGINES * RECORD_ITEMS;
    private static final int CALLED_CELLS = ENGINES * MAX_CELLS;

    // One frame for node 0 and one for each call, as no call is ever made without counting it.
    private static final int FRAMES = MAX_CALLS + 1;
    private static final int FRAME_CELLS = FRAMES * MAX_NEST;
    private static final int CLOSURE_CELLS = MAX_CLOSURES * MAX_NEST;
    // In one frame a value waits for each level above the present node, and one more is on its way.
    private static final int WAITING_CELLS = FRAMES * (MAX_LEVEL + 1);

    // At most two instructions for each node (IF0 has two), and one return for each piece of code.
    private static final int CODE_CELLS = 2 * MAX_CELLS + MAX_LAMBDAS + 1;

    // Each pass but the last adds one of at most 48 + 48 * 17 + 16 * 17 = 1136 facts.
    private static final int MOST_PASSES = 10000;
    // A frame begins and ends each node at most once, so a run needs less than 49 * 48 * 3 steps.
    private static final int MOST_STEPS = 1000000;

    private static final int LAMBDA_MASK = ANY_NUMBER - 1;

    // A value is a long: an int in its low half, or this bit with the place of a closure.
    private static final long CLOSURE_BIT = 1L << 32;
    private static final long LOW_HALF = CLOSURE_BIT - 1;

    private static final int OP_NUMBER = 0;
    private static final int OP_BOUND = 1;
    private static final int OP_CLOSURE = 2;
    private static final int OP_COMBINE = 3;
    private static final int OP_BRANCH = 4;
    private static final int OP_JUMP = 5;
    private static final int OP_CALL_KNOWN = 6;
    private static final int OP_CALL_CHOICE = 7;
    private static final int OP_STICK = 8;
    private static final int OP_RETURN = 9;

    private final int cellLimit;
    private final int callLimit;
    private final int closureLimit;

    private int nodes;
    private int holes;
    private int lambdas;
    private int stageReached;

    private final int[] kinds = new int[MAX_CELLS];
    private final int[] operands = new int[MAX_CELLS];
    private final int[] parents = new int[MAX_CELLS];
    private final int[] places = new int[MAX_CELLS];
    private final int[] children = new int[CHILD_CELLS];
    private final int[] levels = new int[MAX_CELLS];
    // The number of LAMs enclosing a node, and the mask of their lambda numbers.
    private final int[] nests = new int[MAX_CELLS];
    private final int[] scopes = new int[MAX_CELLS];
    private final int[] nodeLambdas = new int[MAX_CELLS];
    private final int[] lambdaNodes = new int[MAX_LAMBDAS];

    private final boolean[] liveNodes = new boolean[MAX_CELLS];
    private final int[] nodeFlows = new int[MAX_CELLS];
    private final int[] paramFlows = new int[MAX_LAMBDAS];
    private boolean grown;

    private final int[] codeOps = new int[CODE_CELLS];
    private final int[] codeNodes = new int[CODE_CELLS];
    // Where a branch, a jump or a known call leads; the other instructions have no use for it.
    private final int[] codeTargets = new int[CODE_CELLS];
    private int codeLength;
    private final int[] branchSpots = new int[MAX_CELLS];
    private final int[] entries = new int[MAX_LAMBDAS];

    private int runningEngine;
    private int ending;
    private int callCount;
    private int closureCount;
    private int frame;
    private final int[] frameReturns = new int[FRAMES];
    private final long[] frameValues = new long[FRAME_CELLS];
    private final int[] closureLambdas = new int[MAX_CLOSURES];
    private final long[] closureValues = new long[CLOSURE_CELLS];
    private int waitingCount;
    private final long[] waiting = new long[WAITING_CELLS];

    private final int[] records = new int[RECORD_CELLS];
    private final int[] calledSets = new int[CALLED_CELLS];

    public ClosureFlow(int cells, int calls, int closures) {
        cellLimit = clamp(cells, MIN_CELLS, MAX_CELLS);
        callLimit = clamp(calls, MIN_CALLS, MAX_CALLS);
        closureLimit = clamp(closures, MIN_CLOSURES, MAX_CLOSURES);
        holes = 1;
    }

    public int put(int kind, int operand) {
        if (kind < VAR || kind > IF0) {
            return BAD;
        }
        if (holes == 0) {
            return CLOSED;
        }
        int parent = parentOfLeftmostHole();
        int binder = binderAt(parent, operand);
        if (kind == VAR && binder < 0) {
            return UNBOUND;
        }
        if (nodes + holes + childrenOf(kind) > cellLimit) {
            return FULL;
        }
        if (isTooDeep(kind, parent)) {
            return DEEP;
        }
        if (kind == LAM && lambdas == MAX_LAMBDAS) {
            return MANY;
        }
        placeUnder(parent);
        kinds[nodes] = kind;
        operands[nodes] = kind == VAR || kind == NUM ? operand : 0;
        nodeLambdas[nodes] = kind == VAR ? binder : -1;
        if (kind == LAM) {
            nodeLambdas[nodes] = lambdas;
            lambdaNodes[lambdas] = nodes;
            lambdas++;
        }
        holes += childrenOf(kind) - 1;
        nodes++;
        return nodes - 1;
    }

    public void clear() {
        nodes = 0;
        holes = 1;
        lambdas = 0;
        stageReached = 0;
        forgetRuns();
    }

    public int setNumber(int node, int value) {
        if (!isNode(node) || kinds[node] != NUM) {
            return BAD;
        }
        operands[node] = value;
        forgetRuns();
        return 0;
    }

    public int solve() {
        if (holes > 0) {
            return NOT_READY;
        }
        startSolution();
        grown = true;
        for (int pass = 0; pass < MOST_PASSES && grown; pass++) {
            growOnce();
        }
        if (stageReached == 0) {
            stageReached = 1;
        }
        return countLiveNodes();
    }

    public int compile() {
        if (stageReached < 1) {
            return NOT_READY;
        }
        codeLength = 0;
        emitPiece(0);
        for (int lambda = 0; lambda < lambdas; lambda++) {
            int body = bodyOf(lambda);
            // A dropped lambda is never entered; 0 only keeps its entry inside the code.
            entries[lambda] = liveNodes[body] ? codeLength : 0;
            if (liveNodes[body]) {
                emitPiece(body);
            }
        }
        linkKnownCalls();
        stageReached = 2;
        return countKeptLambdas();
    }

    public int run(int engine) {
        if (!isEngine(engine)) {
            return BAD;
        }
        if (holes > 0 || engine == COMPILED && stageReached < 2) {
            return NOT_READY;
        }
        startRun(engine);
        if (engine == INTERPRETER) {
            interpret();
        } else {
            execute();
        }
        return ending;
    }

    public int stage() {
        return holes > 0 ? -holes : stageReached;
    }

    public int look(int node, int what) {
        if (!isNode(node)) {
            return -1;
        }
        switch (what) {
            case 0:
                return kinds[node];
            case 1:
                return operands[node];
            case 2:
                return parents[node];
            case 3:
                return nodeLambdas[node];
            default:
                return -1;
        }
    }

    public boolean live(int node) {
        return isSolvedNode(node) && liveNodes[node];
    }

    public int flow(int node) {
        return isSolvedNode(node) ? nodeFlows[node] : -1;
    }

    public int param(int lambda) {
        return isSolvedLambda(lambda) ? paramFlows[lambda] : -1;
    }

    public int site(int node) {
        return isSolvedNode(node) ? siteOf(node) : -1;
    }

    public int form(int lambda) {
        return isSolvedLambda(lambda) ? formOf(lambda) : -1;
    }

    public int captures(int lambda) {
        if (!isSolvedLambda(lambda)) {
            return -1;
        }
        int outside = scopes[lambdaNodes[lambda]];
        int mask = 0;
        for (int node = 0; node < nodes; node++) {
            boolean isUnder = (scopes[node] & 1 << lambda) != 0;
            if (isUnder && kinds[node] == VAR && liveNodes[node]) {
                mask |= 1 << nodeLambdas[node];
            }
        }
        return mask & outside;
    }

    public int report(int engine, int what) {
        if (!isEngine(engine) || what < 0 || what >= RECORD_ITEMS || !hasRun(engine)) {
            return 0;
        }
        return records[engine * RECORD_ITEMS + what];
    }

    public int called(int engine, int node) {
        if (!isEngine(engine) || !isNode(node) || kinds[node] != APP) {
            return -1;
        }
        return hasRun(engine) ? calledSets[engine * MAX_CELLS + node] : 0;
    }

    private static int clamp(int value, int least, int greatest) {
        if (value < least) {
            return least;
        }
        return value > greatest ? greatest : value;
    }

    private static int childrenOf(int kind) {
        switch (kind) {
            case LAM:
                return 1;
            case APP:
            case ADD:
            case SUB:
                return 2;
            case IF0:
                return 3;
            default:
                return 0;
        }
    }

    private static boolean isEngine(int engine) {
        return engine == INTERPRETER || engine == COMPILED;
    }

    private boolean isNode(int node) {
        return node >= 0 && node < nodes;
    }

    private boolean isSolvedNode(int node) {
        return stageReached >= 1 && isNode(node);
    }

    private boolean isSolvedLambda(int lambda) {
        return stageReached >= 1 && lambda >= 0 && lambda < lambdas;
    }

    private boolean hasRun(int engine) {
        return records[engine * RECORD_ITEMS] != NOT_RUN;
    }

    private void forgetRuns() {
        records[INTERPRETER * RECORD_ITEMS] = NOT_RUN;
        records[COMPILED * RECORD_ITEMS] = NOT_RUN;
    }

    // ---- The term ----

    private int parentOfLeftmostHole() {
        for (int node = nodes - 1; node >= 0; node--) {
            if (filledPlaces(node) < childrenOf(kinds[node])) {
                return node;
            }
        }
        return -1;
    }

    private int filledPlaces(int node) {
        int filled = 0;
        for (int place = 0; place < MAX_CHILDREN; place++) {
            if (children[node * MAX_CHILDREN + place] >= 0) {
                filled++;
            }
        }
        return filled;
    }

    /** The lambda number of the LAM that a VAR with this operand would have as binder, or -1. */
    private int binderAt(int parent, int operand) {
        if (operand < 0) {
            return -1;
        }
        int scope = scopeUnder(parent);
        int left = operand;
        // An inner LAM is fed after the LAMs around it, so outward means downward in number.
        for (int lambda = lambdas - 1; lambda >= 0; lambda--) {
            if ((scope & 1 << lambda) != 0) {
                if (left == 0) {
                    return lambda;
                }
                left--;
            }
        }
        return -1;
    }

    private int scopeUnder(int parent) {
        if (parent < 0) {
            return 0;
        }
        return kinds[parent] == LAM ? scopes[parent] | 1 << nodeLambdas[parent] : scopes[parent];
    }

    private int nestUnder(int parent) {
        if (parent < 0) {
            return 0;
        }
        return kinds[parent] == LAM ? nests[parent] + 1 : nests[parent];
    }

    private int levelUnder(int parent) {
        return parent < 0 || kinds[parent] == LAM ? 0 : levels[parent] + 1;
    }

    private boolean isTooDeep(int kind, int parent) {
        if (kind == LAM) {
            return nestUnder(parent) >= MAX_NEST;
        }
        return childrenOf(kind) > 0 && levelUnder(parent) >= MAX_LEVEL;
    }

    private void placeUnder(int parent) {
        parents[nodes] = parent;
        places[nodes] = 0;
        levels[nodes] = levelUnder(parent);
        nests[nodes] = nestUnder(parent);
        scopes[nodes] = scopeUnder(parent);
        for (int place = 0; place < MAX_CHILDREN; place++) {
            children[nodes * MAX_CHILDREN + place] = -1;
        }
        if (parent >= 0) {
            int place = filledPlaces(parent);
            places[nodes] = place;
            children[parent * MAX_CHILDREN + place] = nodes;
        }
    }

    private int childAt(int node, int place) {
        return children[node * MAX_CHILDREN + place];
    }

    private int bodyOf(int lambda) {
        return children[lambdaNodes[lambda] * MAX_CHILDREN];
    }

    // ---- The solution ----

    private void startSolution() {
        for (int node = 0; node < nodes; node++) {
            liveNodes[node] = false;
            nodeFlows[node] = 0;
        }
        for (int lambda = 0; lambda < lambdas; lambda++) {
            paramFlows[lambda] = 0;
        }
        liveNodes[0] = true;
    }

    private void growOnce() {
        grown = false;
        for (int node = 0; node < nodes; node++) {
            if (liveNodes[node]) {
                growNode(node);
            }
        }
    }

    private void growNode(int node) {
        switch (kinds[node]) {
            case VAR:
                addFlow(node, paramFlows[nodeLambdas[node]]);
                break;
            case NUM:
                addFlow(node, ANY_NUMBER);
                break;
            case LAM:
                addFlow(node, 1 << nodeLambdas[node]);
                break;
            case APP:
                growCall(node);
                break;
            case IF0:
                growBranches(node);
                break;
            default:
                growArithmetic(node);
        }
    }

    private void growArithmetic(int node) {
        int left = childAt(node, 0);
        int right = childAt(node, 1);
        addLive(left);
        addLive(right);
        addFlow(node, nodeFlows[left] & nodeFlows[right] & ANY_NUMBER);
    }

    private void growBranches(int node) {
        int test = childAt(node, 0);
        addLive(test);
        if ((nodeFlows[test] & ANY_NUMBER) == 0) {
            return;
        }
        int whenZero = childAt(node, 1);
        int whenNot = childAt(node, 2);
        addLive(whenZero);
        addLive(whenNot);
        addFlow(node, nodeFlows[whenZero] | nodeFlows[whenNot]);
    }

    private void growCall(int node) {
        int function = childAt(node, 0);
        int argument = childAt(node, 1);
        addLive(function);
        addLive(argument);
        if (nodeFlows[argument] == 0) {
            return;
        }
        for (int lambda = 0; lambda < lambdas; lambda++) {
            if ((nodeFlows[function] & 1 << lambda) != 0) {
                int body = bodyOf(lambda);
                addLive(body);
                addParamFlow(lambda, nodeFlows[argument]);
                addFlow(node, nodeFlows[body]);
            }
        }
    }

    private void addLive(int node) {
        if (!liveNodes[node]) {
            liveNodes[node] = true;
            grown = true;
        }
    }

    private void addFlow(int node, int mask) {
        if ((mask & ~nodeFlows[node]) != 0) {
            nodeFlows[node] |= mask;
            grown = true;
        }
    }

    private void addParamFlow(int lambda, int mask) {
        if ((mask & ~paramFlows[lambda]) != 0) {
            paramFlows[lambda] |= mask;
            grown = true;
        }
    }

    private int countLiveNodes() {
        int count = 0;
        for (int node = 0; node < nodes; node++) {
            if (liveNodes[node]) {
                count++;
            }
        }
        return count;
    }

    private int countKeptLambdas() {
        int count = 0;
        for (int lambda = 0; lambda < lambdas; lambda++) {
            if (formOf(lambda) != DROPPED) {
                count++;
            }
        }
        return count;
    }

    private int siteOf(int node) {
        if (kinds[node] != APP) {
            return NO_CALL;
        }
        if (!liveNodes[node]) {
            return DEAD;
        }
        int functions = nodeFlows[childAt(node, 0)];
        int arguments = nodeFlows[childAt(node, 1)];
        if ((functions & LAMBDA_MASK) == 0 || arguments == 0) {
            return NEVER;
        }
        // Taking one from a mask and keeping what stays in common clears its lowest element.
        return (functions & functions - 1) == 0 ? KNOWN : CHOICE;
    }

    private int formOf(int lambda) {
        if (!liveNodes[bodyOf(lambda)]) {
            return DROPPED;
        }
        for (int node = 0; node < nodes; node++) {
            if (siteOf(node) == CHOICE && (nodeFlows[childAt(node, 0)] & 1 << lambda) != 0) {
                return SHARED;
            }
        }
        return DIRECT;
    }

    // ---- What both engines do with values ----

    private void startRun(int engine) {
        runningEngine = engine;
        ending = NOT_RUN;
        callCount = 0;
        closureCount = 0;
        frame = 0;
        waitingCount = 0;
        for (int node = 0; node < MAX_CELLS; node++) {
            calledSets[engine * MAX_CELLS + node] = 0;
        }
    }

    private void endRun(int how, int result, int node) {
        ending = how;
        int first = runningEngine * RECORD_ITEMS;
        records[first] = how;
        records[first + 1] = result;
        records[first + 2] = node;
        records[first + 3] = callCount;
        records[first + 4] = closureCount;
    }

    private static boolean isClosure(long value) {
        return (value & CLOSURE_BIT) != 0;
    }

    private void push(long value) {
        waiting[waitingCount] = value;
        waitingCount++;
    }

    private long pop() {
        waitingCount--;
        return waiting[waitingCount];
    }

    private void pushNumber(int number) {
        push(number & LOW_HALF);
    }

    private void pushBound(int node) {
        int binding = nests[node] - 1 - operands[node];
        push(frameValues[frame * MAX_NEST + binding]);
    }

    private void pushClosure(int node) {
        if (closureCount == closureLimit) {
            endRun(OUT_OF_CLOSURES, 0, node);
            return;
        }
        closureLambdas[closureCount] = nodeLambdas[node];
        for (int binding = 0; binding < nests[node]; binding++) {
            closureValues[closureCount * MAX_NEST + binding] = frameValues[frame * MAX_NEST + binding];
        }
        push(CLOSURE_BIT | closureCount);
        closureCount++;
    }

    private void combine(int node) {
        long right = pop();
        long left = pop();
        if (isClosure(left) || isClosure(right)) {
            endRun(STUCK, 0, node);
            return;
        }
        pushNumber(kinds[node] == ADD ? (int) left + (int) right : (int) left - (int) right);
    }

    private int branch(int node, int whenZero, int whenNot) {
        long test = pop();
        if (isClosure(test)) {
            endRun(STUCK, 0, node);
        }
        return test == 0 ? whenZero : whenNot;
    }

    /** Opens the frame of a call and answers the lambda called, or -1 if the run ends here. */
    private int enterCall(int node, int returnTo) {
        long argument = pop();
        long function = pop();
        if (!isClosure(function)) {
            endRun(STUCK, 0, node);
            return -1;
        }
        if (callCount == callLimit) {
            endRun(OUT_OF_CALLS, 0, node);
            return -1;
        }
        callCount++;
        frame++;
        frameReturns[frame] = returnTo;
        int closure = (int) function;
        int lambda = closureLambdas[closure];
        calledSets[runningEngine * MAX_CELLS + node] |= 1 << lambda;
        int bindings = nests[lambdaNodes[lambda]];
        for (int binding = 0; binding < bindings; binding++) {
            frameValues[frame * MAX_NEST + binding] = closureValues[closure * MAX_NEST + binding];
        }
        frameValues[frame * MAX_NEST + bindings] = argument;
        return lambda;
    }

    private int leaveCall() {
        frame--;
        return frameReturns[frame + 1];
    }

    private void endWithValue() {
        long value = pop();
        if (isClosure(value)) {
            endRun(FUNCTION, closureLambdas[(int) value], -1);
        } else {
            endRun(NUMBER, (int) value, -1);
        }
    }

    // ---- The interpreter ----

    // A state is the node to begin, or ~node when the value of that node has just been pushed.
    private void interpret() {
        int state = 0;
        for (int step = 0; step < MOST_STEPS && ending == NOT_RUN; step++) {
            state = state >= 0 ? begin(state) : handOn(~state);
        }
    }

    private int begin(int node) {
        switch (kinds[node]) {
            case VAR:
                pushBound(node);
                return ~node;
            case NUM:
                pushNumber(operands[node]);
                return ~node;
            case LAM:
                pushClosure(node);
                return ~node;
            default:
                return childAt(node, 0);
        }
    }

    private int handOn(int node) {
        int parent = parents[node];
        if (parent < 0) {
            endWithValue();
            return ~node;
        }
        switch (kinds[parent]) {
            case LAM:
                return ~leaveCall();
            case IF0:
                return places[node] == 0 ? beginBranch(parent) : ~parent;
            case APP:
                return places[node] == 0 ? childAt(parent, 1) : beginBody(parent);
            default:
                if (places[node] == 0) {
                    return childAt(parent, 1);
                }
                combine(parent);
                return ~parent;
        }
    }

    private int beginBranch(int node) {
        int whenZero = childAt(node, 1);
        int whenNot = childAt(node, 2);
        return branch(node, whenZero, whenNot);
    }

    private int beginBody(int node) {
        int lambda = enterCall(node, node);
        return lambda < 0 ? node : bodyOf(lambda);
    }

    // ---- The compiler ----

    // States as in the interpreter, but a LAM is left alone: its body is a piece of its own.
    private void emitPiece(int start) {
        int state = start;
        for (int step = 0; step < MOST_STEPS && state != ~start; step++) {
            state = state >= 0 ? emitBefore(state) : emitAfter(~state);
        }
        emit(OP_RETURN, start);
    }

    private int emitBefore(int node) {
        switch (kinds[node]) {
            case VAR:
                emit(OP_BOUND, node);
                return ~node;
            case NUM:
                emit(OP_NUMBER, node);
                return ~node;
            case LAM:
                emit(OP_CLOSURE, node);
                return ~node;
            default:
                return childAt(node, 0);
        }
    }

    private int emitAfter(int node) {
        int parent = parents[node];
        if (kinds[parent] == IF0) {
            return emitAroundBranches(parent, places[node]);
        }
        if (places[node] == 0) {
            return childAt(parent, 1);
        }
        if (kinds[parent] == APP) {
            emitCall(parent);
        } else {
            emit(OP_COMBINE, parent);
        }
        return ~parent;
    }

    private int emitAroundBranches(int node, int place) {
        if (place == 0) {
            int whenZero = childAt(node, 1);
            if (!liveNodes[whenZero]) {
                // No number reaches the test, so a run that gets past it can only stick.
                emit(OP_STICK, node);
                return ~node;
            }
            branchSpots[node] = codeLength;
            emit(OP_BRANCH, node);
            return whenZero;
        }
        int spot = branchSpots[node];
        if (place == 1) {
            emit(OP_JUMP, node);
            codeTargets[spot] = codeLength;
            return childAt(node, 2);
        }
        // The jump over the else branch stands right before the place the branch leads to.
        codeTargets[codeTargets[spot] - 1] = codeLength;
        return ~node;
    }

    private void emitCall(int node) {
        int site = siteOf(node);
        if (site == KNOWN) {
            emit(OP_CALL_KNOWN, node);
        } else if (site == CHOICE) {
            emit(OP_CALL_CHOICE, node);
        } else {
            // No lambda comes with an argument here, so a run that gets this far has a number.
            emit(OP_STICK, node);
        }
    }

    private void emit(int op, int node) {
        codeOps[codeLength] = op;
        codeNodes[codeLength] = node;
        codeLength++;
    }

    // Done last, as a call may stand before the code of the lambda that it calls.
    private void linkKnownCalls() {
        for (int at = 0; at < codeLength; at++) {
            if (codeOps[at] == OP_CALL_KNOWN) {
                int functions = nodeFlows[childAt(codeNodes[at], 0)];
                for (int lambda = 0; lambda < lambdas; lambda++) {
                    if (functions == 1 << lambda) {
                        codeTargets[at] = entries[lambda];
                    }
                }
            }
        }
    }

    // ---- The compiled engine ----

    private void execute() {
        int at = 0;
        for (int step = 0; step < MOST_STEPS && ending == NOT_RUN; step++) {
            at = perform(at);
        }
    }

    private int perform(int at) {
        int node = codeNodes[at];
        switch (codeOps[at]) {
            case OP_NUMBER:
                // Read from the term and not from the code, as setNumber needs no new compile.
                pushNumber(operands[node]);
                return at + 1;
            case OP_BOUND:
                pushBound(node);
                return at + 1;
            case OP_CLOSURE:
                pushClosure(node);
                return at + 1;
            case OP_COMBINE:
                combine(node);
                return at + 1;
            case OP_BRANCH:
                return branch(node, at + 1, codeTargets[at]);
            case OP_JUMP:
                return codeTargets[at];
            case OP_CALL_KNOWN:
                enterCall(node, at + 1);
                return codeTargets[at];
            case OP_CALL_CHOICE:
                return performChoice(node, at);
            case OP_STICK:
                endRun(STUCK, 0, node);
                return at;
            default:
                return performReturn(at);
        }
    }

    private int performChoice(int node, int at) {
        int lambda = enterCall(node, at + 1);
        return lambda < 0 ? at : entries[lambda];
    }

    private int performReturn(int at) {
        if (frame == 0) {
            endWithValue();
            return at;
        }
        return leaveCall();
    }
}
