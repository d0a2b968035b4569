import java.lang.reflect.InvocationTargetException;
import java.lang.reflect.Method;
import java.util.ArrayList;
import java.util.Arrays;
import java.util.List;
import java.util.Scanner;
import java.util.function.Function;
import java.util.function.IntFunction;
import java.util.function.IntSupplier;
import java.util.function.ObjIntConsumer;

/**
 * One method for each sentence of the document that names an edge: too small, too large, empty, full, a
 * wrap-around, a refused call. The number of the promise is in the name of the method, and the sentence
 * stands above it. Every method whose name begins with "promise" is run.
 */
public final class EdgeTests {
    private static final int VAR = 0, NUM = 1, LAM = 2, APP = 3, ADD = 4, SUB = 5, IF0 = 6;
    private static final int BAD = -1, CLOSED = -2, UNBOUND = -3, FULL = -4, DEEP = -5, MANY = -6, NOT_READY = -7;
    private static final int NUMBER = 1, FUNCTION = 2, STUCK = 3, OUT_OF_CALLS = 4, OUT_OF_CLOSURES = 5;
    private static final int NO_CALL = 0, DEAD = 1, NEVER = 2, KNOWN = 3, CHOICE = 4;
    private static final int DROPPED = 0, DIRECT = 1, SHARED = 2;
    private static final int ANY = 65536;
    private static final int LEAST = Integer.MIN_VALUE, GREATEST = Integer.MAX_VALUE;
    private static final int PROMISES = 17;

    private static final int[] CHILDREN = {0, 0, 1, 2, 2, 2, 3};
    private static final int[] NEGATIVE = {LEAST, LEAST + 1, -65536, -49, -3, -2, -1};
    private static final int[] INTS = {LEAST, LEAST + 1, -65536, -1, 0, 1, 2, 48, 65535, 65536, GREATEST - 1, GREATEST};

    private static final String OMEGA = "@ L @ v0 v0 L @ v0 v0";
    private static final String CHOOSER = "@ ? 0 L + v0 1 L - v0 1 10";
    // sum(n) = n + sum(n - 1), by self-application: node 6 is n.
    private static final String SUM = "@ L @ @ v0 v0 3 L L ? v0 0 + v0 @ @ v1 v1 - v0 1";
    private static final String TWICE = "@ L + @ v0 L v0 @ v0 L 5 L @ v0 1";
    // Four calls and six closures a turn, without end.
    private static final String CLOSURE_LOOP = "@ L @ v0 v0 L @ @ @ L L L @ v3 v3 L 0 L 0 L 0";
    // The last of sixteen lambdas is called at node 21.
    private static final String SIXTEEN = "@ L L L L L 0 @ L L L L L 0 @ L L L L L 0 @ L v0 7";
    // A loop that applies what it holds to 1 and goes on with the answer: all sixteen bodies are reached.
    private static final String ALL_SIXTEEN =
        "@ @ L @ v0 v0 L L @ @ v1 v1 @ v0 1 ? 0 L L L L L 0 ? 0 L L L L L 0 L L L 0";
    // Sixteen LAMs, the last of them with its body still to come, enclosed by itself alone.
    private static final String SIXTEEN_OPEN = "@ @ @ L L L L L 0 L L L L L 0 L L L L L 0 L";
    private static final String CALLS_IN_CALLS = "@ L @ L @ L @ L @ L 0 7 1 1 1 1";
    private static final String[] TERMS = {
        "5", "L v0", OMEGA, CHOOSER, SUM, TWICE, CLOSURE_LOOP, "@ 1 2", "? L 0 1 2", "@ L 7 L @ v0 v0", SIXTEEN,
        ALL_SIXTEEN};
    private static final String[] INCOMPLETE = {"", "@", "L", "@ L v0", "? 1 2", "+ 1", SIXTEEN_OPEN};

    private static volatile String test = "";
    private static int wrong = 0;
    private static int checks = 0;

    // ---- Helpers ----

    private static void due(String what, long got, long want) {
        checks++;
        if (got != want) fault(what + " answered " + got + ", due is " + want);
    }

    private static void due(String what, boolean got, boolean want) {
        due(what, got ? 1 : 0, want ? 1 : 0);
    }

    private static void same(String what, String got, String want) {
        checks++;
        if (!got.equals(want)) fault(what + " is not the same as due");
    }

    private static void fault(String what) {
        wrong++;
        System.out.println(test + ": " + what);
    }

    /** Feeds a term in prefix order: L is LAM, @ APP, + ADD, - SUB, ? IF0, v3 VAR 3, and an int is a NUM. */
    private static ClosureFlow feed(ClosureFlow x, String term) {
        for (Scanner words = new Scanner(term); words.hasNext(); ) {
            String word = words.next();
            int kind = "L@+-?".indexOf(word) + LAM;
            int operand = 0;
            if (kind < LAM) {
                kind = word.startsWith("v") ? VAR : NUM;
                operand = Integer.parseInt(kind == VAR ? word.substring(1) : word);
            }
            int answer = x.put(kind, operand);
            if (answer < 0) fault("feeding '" + word + "' of '" + term + "' answered " + answer);
        }
        return x;
    }

    private static ClosureFlow fed(String term) {
        return feed(new ClosureFlow(48, 48, 64), term);
    }

    private static ClosureFlow fed(int cells, String term) {
        return feed(new ClosureFlow(cells, 48, 64), term);
    }

    private static ClosureFlow solved(String term) {
        ClosureFlow x = fed(term);
        x.solve();
        return x;
    }

    private static ClosureFlow compiled(String term) {
        ClosureFlow x = solved(term);
        x.compile();
        return x;
    }

    private static ClosureFlow ran(String term) {
        ClosureFlow x = compiled(term);
        x.run(0);
        x.run(1);
        return x;
    }

    /** Objects with this term, one in each state that a complete term can be in. */
    private static List<ClosureFlow> states(String term) {
        List<ClosureFlow> all = new ArrayList<>(List.of(fed(term), solved(term), compiled(term), ran(term)));
        ClosureFlow interpreted = fed(term);
        interpreted.run(0);
        all.add(interpreted);
        ClosureFlow half = solved(term);
        half.run(0);
        all.add(half);
        ClosureFlow executed = compiled(term);
        executed.run(1);
        all.add(executed);
        return all;
    }

    private static List<ClosureFlow> allStates() {
        List<ClosureFlow> all = new ArrayList<>();
        for (String term : INCOMPLETE) all.add(fed(term));
        for (String term : TERMS) all.addAll(states(term));
        return all;
    }

    private static String termOf(ClosureFlow x) {
        StringBuilder all = new StringBuilder();
        for (int node = -1; node <= 48; node++) {
            for (int what = -1; what <= 4; what++) all.append(' ').append(x.look(node, what));
        }
        return all.toString();
    }

    private static String solutionOf(ClosureFlow x) {
        StringBuilder all = new StringBuilder();
        for (int i = -1; i <= 48; i++) {
            all.append(' ').append(x.live(i)).append(' ').append(x.flow(i)).append(' ').append(x.site(i));
        }
        for (int i = -1; i <= 16; i++) {
            all.append(' ').append(x.param(i)).append(' ').append(x.form(i)).append(' ').append(x.captures(i));
        }
        return all.toString();
    }

    private static String recordOf(ClosureFlow x, int engine) {
        StringBuilder all = new StringBuilder();
        for (int what = -1; what <= 5; what++) all.append(' ').append(x.report(engine, what));
        for (int node = -1; node <= 48; node++) all.append(' ').append(x.called(engine, node));
        return all.toString();
    }

    /** All that can be asked, as one text. */
    private static String everything(ClosureFlow x) {
        return x.stage() + termOf(x) + solutionOf(x) + recordOf(x, 0) + recordOf(x, 1);
    }

    private static void noRecord(ClosureFlow x, int engine) {
        for (int what = 0; what < 5; what++) due("report(" + engine + ", " + what + ")", x.report(engine, what), 0);
    }

    /** The call answers this refusal, and everything that can be asked stays as it was. */
    private static void refuses(ClosureFlow x, String what, IntSupplier call, int refusal) {
        String before = everything(x);
        due(what, call.getAsInt(), refusal);
        same("everything after the refused " + what, everything(x), before);
    }

    private static void refusesPut(ClosureFlow x, int kind, int operand, int refusal) {
        refuses(x, "put(" + kind + ", " + operand + ")", () -> x.put(kind, operand), refusal);
    }

    private static int nodesOf(ClosureFlow x) {
        int nodes = 0;
        while (nodes < 100 && x.look(nodes, 0) >= 0) nodes++;
        return nodes;
    }

    /** The put is accepted, takes the next number and one hole, and leaves its children as holes. */
    private static void accepts(ClosureFlow x, int kind, int operand) {
        int next = nodesOf(x);
        int holes = -x.stage();
        due("put(" + kind + ", " + operand + ")", x.put(kind, operand), next);
        due("holes after put(" + kind + ", " + operand + ")", -x.stage(), holes - 1 + CHILDREN[kind]);
    }

    private static void records(ClosureFlow x, int engine, int... want) {
        for (int what = 0; what < 5; what++) {
            due("report(" + engine + ", " + what + ")", x.report(engine, what), want[what]);
        }
    }

    /** Solves, compiles and runs with both engines, and looks at the whole of both records. */
    private static void ends(ClosureFlow x, int how, int value, int node, int calls, int closures) {
        x.solve();
        x.compile();
        for (int engine = 0; engine < 2; engine++) {
            due("run(" + engine + ")", x.run(engine), how);
            records(x, engine, how, value, node, calls, closures);
        }
    }

    private static void ends(String term, int how, int value, int node, int calls, int closures) {
        ends(fed(term), how, value, node, calls, closures);
    }

    private static void ends(int calls, int closures, String term, int... want) {
        ends(feed(new ClosureFlow(48, calls, closures), term), want[0], want[1], want[2], want[3], want[4]);
    }

    /** The most nodes that a term of this object can have, found by feeding it greedily. */
    private static int mostNodes(ClosureFlow x) {
        x.clear();
        int nodes = 0;
        while (x.stage() < 0 && nodes < 100) {
            int answer = x.put(IF0, 0);
            if (answer < 0) answer = x.put(ADD, 0);
            if (answer < 0) answer = x.put(LAM, 0);
            if (answer < 0) answer = x.put(NUM, 1);
            nodes++;
        }
        return nodes;
    }

    private static int mostCalls(ClosureFlow x) {
        x.clear();
        due("run of a loop of calls", feed(x, OMEGA).run(0), OUT_OF_CALLS);
        return x.report(0, 3);
    }

    private static int mostClosures(ClosureFlow x) {
        x.clear();
        feed(x, CLOSURE_LOOP);
        due("run of a loop of closures", x.run(0), OUT_OF_CLOSURES);
        return x.report(0, 4);
    }

    private static void flows(String term, int... want) {
        ClosureFlow x = solved(term);
        for (int node = 0; node < want.length; node++) {
            due("flow(" + node + ") of '" + term + "'", x.flow(node), want[node]);
        }
    }

    /** A mark for each node of the term: 1 if it is live. */
    private static void lives(String term, String marks) {
        ClosureFlow x = solved(term);
        for (int node = 0; node < marks.length(); node++) {
            due("live(" + node + ") of '" + term + "'", x.live(node), marks.charAt(node) == '1');
        }
    }

    // ---- Promise 1: construction and the start ----

    // "The constructor accepts any ints."
    static void promise01_constructorAcceptsAnyInts() {
        for (int cells : INTS) {
            for (int calls : INTS) {
                for (int closures : INTS) {
                    ClosureFlow x = new ClosureFlow(cells, calls, closures);
                    ends(feed(x, "@ L v0 L 1"), FUNCTION, 1, -1, 1, 2);
                }
            }
        }
    }

    // "cells: the most nodes of a term, clamped into 8..48." "A value below the least becomes the least"
    static void promise01_cellsTooSmallBecome8() {
        for (int cells : new int[] {LEAST, -48, -1, 0, 1, 7, 8}) {
            due("most nodes with cells " + cells, mostNodes(new ClosureFlow(cells, 48, 64)), 8);
        }
    }

    // "a value above the greatest becomes the greatest."
    static void promise01_cellsTooLargeBecome48() {
        for (int cells : new int[] {48, 49, 64, 65536, GREATEST}) {
            due("most nodes with cells " + cells, mostNodes(new ClosureFlow(cells, 48, 64)), 48);
        }
    }

    // "clamped into 8..48": between the two, cells is kept.
    static void promise01_cellsBetweenAreKept() {
        for (int cells = 9; cells < 48; cells++) {
            due("most nodes with cells " + cells, mostNodes(new ClosureFlow(cells, 48, 64)), cells);
        }
    }

    // "calls: the call limit, clamped into 4..48." "A value below the least becomes the least"
    static void promise01_callsTooSmallBecome4() {
        for (int calls : new int[] {LEAST, -48, -1, 0, 3, 4}) {
            due("most calls with calls " + calls, mostCalls(new ClosureFlow(48, calls, 64)), 4);
        }
    }

    // "a value above the greatest becomes the greatest."
    static void promise01_callsTooLargeBecome48() {
        for (int calls : new int[] {48, 49, 64, 65536, GREATEST}) {
            due("most calls with calls " + calls, mostCalls(new ClosureFlow(48, calls, 64)), 48);
        }
    }

    // "clamped into 4..48": between the two, calls is kept.
    static void promise01_callsBetweenAreKept() {
        for (int calls = 5; calls < 48; calls++) {
            due("most calls with calls " + calls, mostCalls(new ClosureFlow(48, calls, 64)), calls);
        }
    }

    // "closures: the closure limit, clamped into 4..64." "A value below the least becomes the least"
    static void promise01_closuresTooSmallBecome4() {
        for (int closures : new int[] {LEAST, -64, -1, 0, 3, 4}) {
            due("most closures with closures " + closures, mostClosures(new ClosureFlow(48, 48, closures)), 4);
        }
    }

    // "a value above the greatest becomes the greatest."
    static void promise01_closuresTooLargeBecome64() {
        for (int closures : new int[] {64, 65, 66, 65536, GREATEST}) {
            due("most closures with closures " + closures, mostClosures(new ClosureFlow(48, 48, closures)), 64);
        }
    }

    // "clamped into 4..64": between the two, closures is kept.
    static void promise01_closuresBetweenAreKept() {
        for (int closures = 5; closures < 64; closures++) {
            due("most closures with closures " + closures, mostClosures(new ClosureFlow(48, 48, closures)), closures);
        }
    }

    // "These three limits never change afterwards."
    static void promise01_limitsNeverChange() {
        ClosureFlow x = new ClosureFlow(40, 30, 20);
        for (int round = 0; round < 3; round++) {
            due("most nodes in round " + round, mostNodes(x), 40);
            due("most closures in round " + round, mostClosures(x), 20);
            due("most calls in round " + round, mostCalls(x), 30);
            due("most calls of another object", mostCalls(new ClosureFlow(48, 48, 64)), 48);
            x.solve();
            x.compile();
            due("run(1) in round " + round, x.run(1), OUT_OF_CALLS);
            due("calls in round " + round, x.report(1, 3), 30);
        }
    }

    // "At first there is no node"
    static void promise01_noNodeAtFirst() {
        ClosureFlow x = new ClosureFlow(48, 48, 64);
        for (int node = -1; node <= 48; node++) {
            for (int what = 0; what < 4; what++) due("look(" + node + ", " + what + ")", x.look(node, what), -1);
        }
        due("the number of the first node", x.put(NUM, 5), 0);
    }

    // "At first there is .. one hole (the root)"
    static void promise01_oneHoleAtFirst() {
        ClosureFlow x = new ClosureFlow(48, 48, 64);
        due("stage()", x.stage(), -1);
        x.put(NUM, 5);
        due("stage() when the one hole is filled", x.stage(), 0);
        due("the parent of what fills it", x.look(0, 2), -1);
    }

    // "At first .. the records of both engines are NOT_RUN."
    static void promise01_noRecordAtFirst() {
        for (int engine = 0; engine < 2; engine++) noRecord(new ClosureFlow(48, 48, 64), engine);
    }

    // "Each engine keeps the record of its latest run, or NOT_RUN."
    static void promise01_latestRunIsKept() {
        for (int engine = 0; engine < 2; engine++) {
            ClosureFlow x = compiled("? 0 @ L + v0 1 1 L v0");
            noRecord(x, engine);
            x.run(engine);
            records(x, engine, NUMBER, 2, -1, 1, 1);
            x.setNumber(1, 7);
            x.run(engine);
            records(x, engine, FUNCTION, 1, -1, 0, 1);
            x.solve();
            x.compile();
            records(x, engine, FUNCTION, 1, -1, 0, 1);
            noRecord(x, 1 - engine);
        }
    }

    /** Makes every call that the document refuses for sure in the state of this object. */
    private static void refusedCalls(ClosureFlow x) {
        for (int kind : new int[] {LEAST, -1, 7, 8, GREATEST}) due("put(" + kind + ")", x.put(kind, 0), BAD);
        boolean complete = x.stage() >= 0;
        for (int operand : new int[] {LEAST, -1, 5, GREATEST}) {
            due("put(VAR, " + operand + ")", x.put(VAR, operand), complete ? CLOSED : UNBOUND);
        }
        for (int kind = VAR; complete && kind <= IF0; kind++) due("put(" + kind + ")", x.put(kind, 0), CLOSED);
        for (int node = -1; node <= 48; node++) {
            if (x.look(node, 0) != NUM) due("setNumber(" + node + ")", x.setNumber(node, 9), BAD);
        }
        for (int engine : new int[] {LEAST, -1, 2, GREATEST}) due("run(" + engine + ")", x.run(engine), BAD);
        if (!complete) due("solve()", x.solve(), NOT_READY);
        if (!complete) due("run(0)", x.run(0), NOT_READY);
        if (x.stage() < 1) due("compile()", x.compile(), NOT_READY);
        if (x.stage() < 2) due("run(1)", x.run(1), NOT_READY);
    }

    // "In all promises, a refused call changes nothing." One object hears the refused calls, its twin does not.
    static void promise01_refusedCallsChangeNothing() {
        for (String term : TERMS) {
            ClosureFlow x = fed("");
            ClosureFlow twin = fed("");
            for (String word : term.split(" ")) {
                refusedCalls(x);
                same("everything before '" + word + "' of '" + term + "'", everything(x), everything(twin));
                feed(x, word);
                feed(twin, word);
            }
            for (int step = 0; step < 7; step++) {
                refusedCalls(x);
                same("everything before step " + step + " with '" + term + "'", everything(x), everything(twin));
                for (ClosureFlow each : List.of(x, twin)) {
                    if (step == 0 || step == 3) each.run(0);
                    if (step == 1) each.solve();
                    if (step == 2) each.compile();
                    if (step == 4) each.run(1);
                    if (step == 5) each.clear();
                }
            }
        }
    }

    // "In all promises, a refused call changes nothing": the refusals FULL, DEEP and MANY, and what is fed after them.
    static void promise01_refusedPutsChangeNothing() {
        for (String term : TERMS) {
            for (int cells : new int[] {term.split(" ").length, 48}) {
                ClosureFlow x = fed(cells, "");
                String[] words = term.split(" ");
                for (int at = 0; at < words.length; at++) {
                    // A twin tells which kinds are refused here, without a change to x.
                    for (int kind = LAM; kind <= IF0; kind++) {
                        String before = String.join(" ", Arrays.copyOf(words, at));
                        int answer = fed(cells, before).put(kind, 0);
                        if (answer < 0) refusesPut(x, kind, 0, answer);
                    }
                    feed(x, words[at]);
                }
                same("'" + term + "' at its end", everything(x), everything(fed(term)));
            }
        }
    }

    // ---- Promise 2: the term and put ----

    // "Nodes are numbered 0, 1, 2 .. as they are accepted; node 0 is the root."
    static void promise02_nodesAreNumberedAsAccepted() {
        ClosureFlow x = fed("");
        String[] words = SUM.split(" ");
        for (int i = 0; i < words.length; i++) {
            x.put(7, 0);
            x.put(VAR, 9);
            due("a node before it is accepted", x.look(i, 0), -1);
            feed(x, words[i]);
            due("a node when it is accepted", x.look(i, 0) >= 0, true);
        }
        due("the parent of the root", x.look(0, 2), -1);
    }

    // "a node first, then its children from left to right, each with all that is under it"
    static void promise02_prefixOrder() {
        ClosureFlow x = fed("? + 1 - 2 3 @ L v0 4 L 5");
        int[] parents = {-1, 0, 1, 1, 3, 3, 0, 6, 7, 6, 0, 10};
        for (int i = 0; i < parents.length; i++) due("parent of " + i, x.look(i, 2), parents[i]);
    }

    // "The variable of the k-th LAM enclosing it, counted outward, 0 the innermost."
    static void promise02_varCountsOutwardFromTheInnermost() {
        for (int k = 0; k < 5; k++) {
            ClosureFlow x = fed("L L L L L v" + k);
            due("binder of VAR " + k, x.look(5, 3), 4 - k);
        }
        ClosureFlow beside = fed("L @ L L v2 L v1");
        due("binder past a LAM beside", beside.look(6, 3), 0);
    }

    // "A LAM encloses every node under it, not itself."
    static void promise02_lamDoesNotEncloseItself() {
        refusesPut(fed("@ L v0"), VAR, 0, UNBOUND);
        refusesPut(fed("@ L 1"), VAR, 0, UNBOUND);
        refusesPut(fed("@ L v0 + 1"), VAR, 0, UNBOUND);
        accepts(fed("L @ L v0"), VAR, 0);
        refusesPut(fed("L @ L v0"), VAR, 1, UNBOUND);
        accepts(fed("L ? + 1 2 3 - 4"), VAR, 0);
    }

    // "VAR k: no child." .. "IF0: three children"
    static void promise02_childrenOfEachKind() {
        int[] stages = {0, 0, -1, -2, -2, -2, -3};
        for (int kind = NUM; kind <= IF0; kind++) {
            ClosureFlow x = fed("");
            x.put(kind, 0);
            due("stage() with a root of kind " + kind, x.stage(), stages[kind]);
        }
        due("stage() with a VAR", fed("L v0").stage(), 0);
    }

    // "APP: two children: function, argument. ADD, SUB: two children: left, right. IF0: .. test, then, else."
    static void promise02_placesOfChildren() {
        ends("@ L - v0 1 5", NUMBER, 4, -1, 1, 1);
        ends("@ 5 L v0", STUCK, 0, 0, 0, 1);
        ends("- 7 3", NUMBER, 4, -1, 0, 0);
        ends("? 0 1 2", NUMBER, 1, -1, 0, 0);
        ends("? 3 1 2", NUMBER, 2, -1, 0, 0);
        ends("+ @ 1 2 @ 3 4", STUCK, 0, 1, 0, 0);
    }

    // "The LAM nodes are also numbered 0, 1, 2 .. in the order fed"
    static void promise02_lambdasAreNumberedAsFed() {
        ClosureFlow x = fed("@ L L L L L");
        due("a LAM too deep", x.put(LAM, 0), DEEP);
        feed(x, "1 L L v0");
        for (int lambda = 0; lambda < 5; lambda++) due("number of lambda " + lambda, x.look(lambda + 1, 3), lambda);
        due("number of the next lambda", x.look(7, 3), 5);
        due("number of the last lambda", x.look(8, 3), 6);
    }

    // "with no node yet, it is the root place"
    static void promise02_firstHoleIsTheRoot() {
        for (int kind = NUM; kind <= IF0; kind++) {
            ClosureFlow x = fed("");
            due("first put of kind " + kind, x.put(kind, 0), 0);
            due("its parent", x.look(0, 2), -1);
        }
    }

    // "The leftmost hole belongs to the node of greatest number that still lacks a child"
    static void promise02_leftmostHoleIsOfTheGreatestNumber() {
        ClosureFlow x = fed("? @ L +");
        int[] parents = {3, 3, 1, 0, 0};
        for (int i = 0; i < parents.length; i++) {
            x.put(NUM, i);
            due("parent of node " + (4 + i), x.look(4 + i, 2), parents[i]);
        }
        due("stage()", x.stage(), 0);
    }

    // "among the places of that node it is the first not filled"
    static void promise02_firstPlaceNotFilled() {
        ends("? 0 10 20", NUMBER, 10, -1, 0, 0);
        ends("- 1 10", NUMBER, -9, -1, 0, 0);
        ends("@ L v0 10", NUMBER, 10, -1, 1, 1);
        ends("? + 0 0 + 1 10 + 2 20", NUMBER, 11, -1, 0, 0);
    }

    // "The term is complete when it has no hole."
    static void promise02_completeWithoutHole() {
        for (String term : TERMS) {
            ClosureFlow x = fed("");
            for (String word : term.split(" ")) {
                due("run(0) while '" + term + "' has a hole", x.run(0), NOT_READY);
                feed(x, word);
            }
            due("stage() of '" + term + "'", x.stage(), 0);
            due("run(0) of '" + term + "'", x.run(0) > 0, true);
        }
    }

    // "The level of a place is 0 for the root"
    static void promise02_levelOfTheRootIs0() {
        for (int kind = APP; kind <= IF0; kind++) {
            accepts(fed("+ + + +"), kind, 0);
            refusesPut(fed("+ + + + +"), kind, 0, DEEP);
        }
    }

    // "The level of a place is 0 .. for the body of a LAM"
    static void promise02_levelOfABodyIs0() {
        for (int kind = APP; kind <= IF0; kind++) {
            accepts(fed("+ + + + + L + + + +"), kind, 0);
            refusesPut(fed("+ + + + + L + + + + +"), kind, 0, DEEP);
            accepts(fed("L L + + + +"), kind, 0);
        }
    }

    // "for a child of APP, ADD, SUB or IF0 it is the level of that parent plus 1"
    static void promise02_levelOfAChildIsOneMore() {
        String[] kinds = {"@", "+", "-", "?"};
        for (int i = 0; i < kinds.length; i++) {
            StringBuilder filled = new StringBuilder(" " + kinds[i]);
            for (int place = 0; place < CHILDREN[APP + i]; place++) {
                for (int kind = APP; kind <= IF0; kind++) {
                    accepts(fed("+ + +" + filled), kind, 0);
                    refusesPut(fed("+ + + +" + filled), kind, 0, DEEP);
                }
                filled.append(" 1");
            }
        }
        // A filled subtree beside does not count, nor which child it is.
        accepts(fed("+ + + + + 1 2"), ADD, 0);
        accepts(fed("@ 1 + 1 - 1 @ 1"), ADD, 0);
        refusesPut(fed("@ 1 + 1 - 1 @ 1 + 1"), ADD, 0, DEEP);
        accepts(fed("? 1 2 ? 1 2 ? 1 2 ? 1 2"), ADD, 0);
        refusesPut(fed("? 1 2 ? 1 2 ? 1 2 ? 1 2 ? 1 2"), ADD, 0, DEEP);
    }

    // "1. kind is not 0..6: BAD." Too small.
    static void promise02_kindBelow0IsBad() {
        for (String term : INCOMPLETE) {
            for (int kind : NEGATIVE) refusesPut(fed(term), kind, 0, BAD);
        }
    }

    // "1. kind is not 0..6: BAD." Too large.
    static void promise02_kindAbove6IsBad() {
        for (String term : INCOMPLETE) {
            for (int kind : new int[] {7, 8, 48, 65536, GREATEST}) refusesPut(fed(term), kind, 0, BAD);
        }
        accepts(fed(""), IF0, 0);
        accepts(fed("L"), VAR, 0);
    }

    // "The first of these conditions that holds decides": BAD before CLOSED.
    static void promise02_badComesBeforeClosed() {
        for (String term : TERMS) {
            for (int kind : new int[] {LEAST, -1, 7, GREATEST}) refusesPut(ran(term), kind, 0, BAD);
        }
    }

    // "2. There is no hole: CLOSED."
    static void promise02_closedWithoutHole() {
        for (String term : TERMS) {
            for (ClosureFlow x : states(term)) {
                for (int kind = VAR; kind <= IF0; kind++) refusesPut(x, kind, 0, CLOSED);
            }
        }
    }

    // "The first of these conditions that holds decides": CLOSED before UNBOUND.
    static void promise02_closedComesBeforeUnbound() {
        for (int operand : INTS) refusesPut(fed("5"), VAR, operand, CLOSED);
    }

    // "The first of these conditions that holds decides": CLOSED before FULL.
    static void promise02_closedComesBeforeFull() {
        ClosureFlow x = fed(8, "+ + + 1 2 3 L 4");
        for (int kind = VAR; kind <= IF0; kind++) refusesPut(x, kind, 0, CLOSED);
    }

    // "The first of these conditions that holds decides": CLOSED before DEEP and MANY.
    static void promise02_closedComesBeforeDeepAndMany() {
        refusesPut(fed("L L L L L v0"), LAM, 0, CLOSED);
        refusesPut(fed("+ 1 + 1 + 1 + 1 + 1 1"), ADD, 0, CLOSED);
        refusesPut(fed(SIXTEEN), LAM, 0, CLOSED);
    }

    // "3. kind is VAR, and operand is below 0 ..: UNBOUND."
    static void promise02_operandBelow0IsUnbound() {
        for (int operand : NEGATIVE) {
            refusesPut(fed(""), VAR, operand, UNBOUND);
            refusesPut(fed("L"), VAR, operand, UNBOUND);
            refusesPut(fed("L L L L L @"), VAR, operand, UNBOUND);
        }
    }

    // "3. kind is VAR, and operand is .. not below the number of LAMs enclosing the hole: UNBOUND."
    static void promise02_operandNotBelowTheLamsIsUnbound() {
        String lams = "L L L L L";
        for (int around = 0; around <= 5; around++) {
            String term = lams.substring(0, Math.max(0, 2 * around - 1));
            for (int operand = 0; operand < around; operand++) accepts(fed(term), VAR, operand);
            for (int operand : new int[] {around, around + 1, 16, 32, 48, 65536, GREATEST}) {
                refusesPut(fed(term), VAR, operand, UNBOUND);
            }
        }
    }

    // "3. kind is VAR": for no other kind does an operand make a put UNBOUND.
    static void promise02_onlyVarIsUnbound() {
        for (int kind = NUM; kind <= IF0; kind++) {
            for (int operand : INTS) accepts(fed(""), kind, operand);
        }
    }

    // "4. (nodes + holes + children of this kind) is greater than cells": equal to cells is accepted.
    static void promise02_justFullIsAccepted() {
        accepts(fed(8, "+ + +"), LAM, 0);
        for (int kind = APP; kind <= SUB; kind++) accepts(fed(8, "+ ?"), kind, 0);
        accepts(fed(8, "+ +"), IF0, 0);
        accepts(fed(48, "? ? ? ? ? L ? ? ? ? ? L ? ? ? ? 1 2 3 4 5 + 6"), LAM, 0);
    }

    // "4. (nodes + holes + children of this kind) is greater than cells ..: FULL." One more is refused.
    static void promise02_oneMoreIsFull() {
        refusesPut(fed(8, "+ + + L"), LAM, 0, FULL);
        for (int kind = APP; kind <= SUB; kind++) refusesPut(fed(8, "? ?"), kind, 0, FULL);
        refusesPut(fed(8, "+ ?"), IF0, 0, FULL);
        refusesPut(fed(48, "? ? ? ? ? L ? ? ? ? ? L ? ? ? ? 1 2 3 4 5 + 6 L"), LAM, 0, FULL);
    }

    // "with nodes and holes counted before the call": at every number of cells.
    static void promise02_fullAtEveryCells() {
        for (int cells = 8; cells <= 48; cells++) {
            ClosureFlow x = fed(cells, "");
            int taken = 1;
            for (int step = 0; step < cells && x.stage() < 0; step++) {
                for (int kind = LAM; kind <= IF0; kind++) {
                    if (taken + CHILDREN[kind] > cells) refusesPut(x, kind, 0, FULL);
                }
                int kind = taken + 3 <= cells ? IF0 : taken + 2 <= cells ? SUB : LAM;
                if (taken == cells || x.put(kind, 0) < 0) {
                    accepts(x, NUM, 0);
                } else {
                    taken += CHILDREN[kind];
                }
            }
            due("the last node with cells " + cells, x.look(cells - 1, 0), NUM);
            due("no node past the cells " + cells, x.look(cells, 0), -1);
        }
    }

    // "4. .. FULL": a kind without children is never refused so, as its hole is counted already.
    static void promise02_varAndNumAreNeverFull() {
        ClosureFlow x = fed(8, "L + + + 1");
        accepts(x, VAR, 0);
        accepts(x, NUM, 3);
        accepts(x, VAR, 0);
        due("stage() when every cell is taken", x.stage(), 0);
    }

    // "The first of these conditions that holds decides": UNBOUND, also when every cell is taken.
    static void promise02_unboundWhenFull() {
        refusesPut(fed(8, "L + + + 1"), VAR, 1, UNBOUND);
        refusesPut(fed(8, "L + + + 1"), VAR, -1, UNBOUND);
    }

    // "The first of these conditions that holds decides": FULL before DEEP.
    static void promise02_fullComesBeforeDeep() {
        for (int kind = APP; kind <= IF0; kind++) {
            refusesPut(fed(10 + CHILDREN[kind], "+ + + + +"), kind, 0, FULL);
            refusesPut(fed(11 + CHILDREN[kind], "+ + + + +"), kind, 0, DEEP);
        }
        refusesPut(fed(8, "+ L L L L L"), LAM, 0, FULL);
        refusesPut(fed(9, "+ L L L L L"), LAM, 0, DEEP);
    }

    // "The first of these conditions that holds decides": FULL before MANY.
    static void promise02_fullComesBeforeMany() {
        refusesPut(fed(23, SIXTEEN_OPEN), LAM, 0, FULL);
        refusesPut(fed(24, SIXTEEN_OPEN), LAM, 0, MANY);
    }

    // "The first of these conditions that holds decides": DEEP before MANY.
    static void promise02_deepComesBeforeMany() {
        refusesPut(fed("@ @ @ L 0 L L L L L 0 L L L L L 0 L L L L L"), LAM, 0, DEEP);
    }

    // "5. kind is APP, ADD, SUB or IF0 and the hole has level MAX_LEVEL ..: DEEP."
    static void promise02_deepAtLevel5() {
        for (int kind = APP; kind <= IF0; kind++) {
            refusesPut(fed("+ + + + +"), kind, 0, DEEP);
            refusesPut(fed("? 1 2 @ 1 - 1 + 1 ? 1"), kind, 0, DEEP);
            accepts(fed("? 1 2 @ 1 - 1 + 1"), kind, 0);
        }
    }

    // "5. kind is APP, ADD, SUB or IF0 and ..": the other kinds may stand at level MAX_LEVEL.
    static void promise02_leavesAndLamsAtLevel5() {
        accepts(fed("+ + + + +"), NUM, 0);
        accepts(fed("+ + + + +"), LAM, 0);
        accepts(fed("L + + + + +"), VAR, 0);
    }

    // "5. .. kind is LAM and the hole is enclosed by MAX_NEST LAMs: DEEP."
    static void promise02_deepInFiveLams() {
        refusesPut(fed("L L L L L"), LAM, 0, DEEP);
        refusesPut(fed("L @ 1 L L L ? 1 2 L + 1"), LAM, 0, DEEP);
        String lams = "L L L L";
        for (int around = 0; around < 5; around++) accepts(fed(lams.substring(0, Math.max(0, 2 * around - 1))), LAM, 0);
        accepts(fed("@ L L L L L 1"), LAM, 0);
    }

    // "5. .. kind is LAM and ..": the other kinds may stand in MAX_NEST LAMs.
    static void promise02_otherKindsInFiveLams() {
        for (int kind = VAR; kind <= IF0; kind++) {
            if (kind != LAM) accepts(fed("L L L L L"), kind, 0);
        }
    }

    // "6. kind is LAM and the term already has MAX_LAMBDAS LAMs: MANY."
    static void promise02_seventeenthLamIsMany() {
        accepts(fed("@ @ @ L L L L L 0 L L L L L 0 L L L L L 0"), LAM, 0);
        refusesPut(fed(SIXTEEN_OPEN), LAM, 0, MANY);
        due("number of the sixteenth lambda", fed(SIXTEEN_OPEN).look(21, 3), 15);
    }

    // "6. kind is LAM and ..": the other kinds are accepted after MAX_LAMBDAS LAMs.
    static void promise02_otherKindsAfterSixteenLams() {
        for (int kind = VAR; kind <= IF0; kind++) {
            if (kind != LAM) accepts(fed(SIXTEEN_OPEN), kind, 0);
        }
    }

    // "any int for NUM"
    static void promise02_numTakesAnyInt() {
        for (int operand : INTS) {
            ClosureFlow x = fed("");
            due("put(NUM, " + operand + ")", x.put(NUM, operand), 0);
            due("its operand", x.look(0, 1), operand);
        }
    }

    // "for other kinds any operand is accepted and the node keeps operand 0"
    static void promise02_otherKindsKeepOperand0() {
        for (int kind = LAM; kind <= IF0; kind++) {
            for (int operand : INTS) {
                ClosureFlow x = fed("");
                due("put(" + kind + ", " + operand + ")", x.put(kind, operand), 0);
                due("its operand", x.look(0, 1), 0);
            }
        }
    }

    // "Nodes accepted earlier keep their numbers, kinds, operands and parents."
    static void promise02_earlierNodesStay() {
        for (String term : TERMS) {
            ClosureFlow x = fed("");
            String[] words = term.split(" ");
            String before = "";
            for (int i = 0; i < words.length; i++) {
                feed(x, words[i]);
                StringBuilder now = new StringBuilder();
                for (int node = 0; node <= i; node++) {
                    for (int what = 0; what < 4; what++) now.append(' ').append(x.look(node, what));
                }
                due("nodes before '" + words[i] + "' stay", now.toString().startsWith(before), true);
                before = now.toString();
            }
        }
    }

    // "so that it is always well formed and well scoped and can always be completed"
    static void promise02_canAlwaysBeCompleted() {
        for (String term : TERMS) {
            String[] words = term.split(" ");
            for (int length = 0; length < words.length; length++) {
                for (int cells : new int[] {words.length, 48}) {
                    completes(fed(cells, String.join(" ", Arrays.copyOf(words, length))));
                }
            }
        }
        for (int cells = 8; cells <= 48; cells++) {
            ClosureFlow x = fed(cells, "");
            // As many holes as the cells allow.
            for (int step = 0; step < 48; step++) {
                if (x.put(IF0, 0) < 0 && x.put(ADD, 0) < 0) x.put(LAM, 0);
            }
            completes(x);
        }
    }

    private static void completes(ClosureFlow x) {
        int holes = -x.stage();
        for (int hole = 0; hole < holes; hole++) accepts(x, NUM, hole);
        due("stage() of a completed term", x.stage(), 0);
    }

    // ---- Promise 3: clear ----

    private static ClosureFlow cleared(ClosureFlow x) {
        x.clear();
        return x;
    }

    // "clear() brings everything back to the state right after construction": no node.
    static void promise03_noNodeAfterClear() {
        for (ClosureFlow x : allStates()) {
            x.clear();
            for (int node = -1; node <= 48; node++) {
                for (int what = 0; what < 4; what++) due("look(" + node + ", " + what + ")", x.look(node, what), -1);
                due("setNumber(" + node + ")", x.setNumber(node, 1), BAD);
                due("called(0, " + node + ")", x.called(0, node), -1);
            }
        }
    }

    // "one hole"
    static void promise03_oneHoleAfterClear() {
        for (ClosureFlow x : allStates()) {
            due("stage() after clear", cleared(x).stage(), -1);
            due("solve() after clear", x.solve(), NOT_READY);
            due("compile() after clear", x.compile(), NOT_READY);
            due("run(0) after clear", x.run(0), NOT_READY);
            due("run(1) after clear", x.run(1), NOT_READY);
            due("put(VAR, 0) after clear", x.put(VAR, 0), UNBOUND);
        }
    }

    // "both records NOT_RUN"
    static void promise03_noRecordAfterClear() {
        for (ClosureFlow x : allStates()) {
            x.clear();
            noRecord(x, 0);
            noRecord(x, 1);
            // The same term again must not bring back the old records.
            feed(x, CHOOSER);
            noRecord(x, 0);
            noRecord(x, 1);
            for (int engine = 0; engine < 2; engine++) due("called(" + engine + ", 0)", x.called(engine, 0), 0);
        }
    }

    // "with the same limits"
    static void promise03_sameLimitsAfterClear() {
        ClosureFlow x = feed(new ClosureFlow(30, 7, 9), SUM);
        for (int round = 0; round < 3; round++) {
            due("most nodes", mostNodes(x), 30);
            due("most calls", mostCalls(x), 7);
            due("most closures", mostClosures(x), 9);
        }
    }

    // "It does so in every state."
    static void promise03_clearInEveryState() {
        String fresh = everything(fed(""));
        for (ClosureFlow x : allStates()) {
            x.clear();
            same("everything after clear", everything(x), fresh);
            x.clear();
            same("everything after clear twice", everything(x), fresh);
        }
        ClosureFlow changed = ran(SUM);
        changed.setNumber(6, 4);
        same("everything after setNumber and clear", everything(cleared(changed)), fresh);
    }

    // "the state right after construction": what is fed next is as in a new object, from the first number on.
    static void promise03_nextTermIsAsInANewObject() {
        for (String next : TERMS) {
            for (ClosureFlow x : allStates()) {
                x.clear();
                for (String word : next.split(" ")) feed(x, word);
                same("'" + next + "' fed after clear", everything(x), everything(fed(next)));
                x.solve();
                same("'" + next + "' solved after clear", everything(x), everything(solved(next)));
                x.compile();
                x.run(0);
                x.run(1);
                same("'" + next + "' run after clear", everything(x), everything(ran(next)));
            }
        }
    }

    // "the state right after construction": the stage of the next term is 0, and the old code is not run.
    static void promise03_oldSolutionIsGone() {
        ClosureFlow x = feed(cleared(ran(SUM)), SUM);
        due("stage() of the same term again", x.stage(), 0);
        due("live(0)", x.live(0), false);
        due("flow(0)", x.flow(0), -1);
        due("compile()", x.compile(), NOT_READY);
        due("run(1)", x.run(1), NOT_READY);
    }

    // "the state right after construction": LAMs, levels and cells are counted from the start again.
    static void promise03_limitsAreCountedAgain() {
        ClosureFlow x = fed(24, SIXTEEN_OPEN);
        refusesPut(x, LAM, 0, MANY);
        refusesPut(cleared(x), VAR, 0, UNBOUND);
        refusesPut(feed(x, SIXTEEN_OPEN), LAM, 0, MANY);
        x.clear();
        accepts(feed(x, "+ + + +"), ADD, 0);
        refusesPut(x, ADD, 0, DEEP);
        x.clear();
        accepts(feed(x, "L L L L"), LAM, 0);
        refusesPut(x, LAM, 0, DEEP);
    }

    // ---- Promise 4: setNumber ----

    private static void refusesNumber(ClosureFlow x, int node) {
        refuses(x, "setNumber(" + node + ", 9)", () -> x.setNumber(node, 9), BAD);
    }

    // "If node is not the number of a NUM node now in the term (negative ..): BAD, and nothing changes."
    static void promise04_negativeNodeIsBad() {
        for (int node : NEGATIVE) {
            for (ClosureFlow x : states(SUM)) refusesNumber(x, node);
            refusesNumber(fed(""), node);
        }
    }

    // "(.. too large ..): BAD, and nothing changes."
    static void promise04_tooLargeNodeIsBad() {
        for (int node : new int[] {21, 22, 47, 48, 49, 65536, GREATEST}) {
            for (ClosureFlow x : states(SUM)) refusesNumber(x, node);
        }
        refusesNumber(fed(""), 0);
        refusesNumber(fed("+ 1"), 2);
        refusesNumber(fed("5"), 1);
        refusesNumber(feed(cleared(fed("+ 1 2")), "5"), 1);
    }

    // "(.. or a node of another kind): BAD, and nothing changes."
    static void promise04_otherKindIsBad() {
        for (ClosureFlow x : states("? @ L + v0 1 - 2 3 4 5")) {
            for (int node : new int[] {0, 1, 2, 3, 4, 6}) refusesNumber(x, node);
        }
        refusesNumber(fed("@ L v0"), 2);
    }

    // "a NUM node now in the term": a NUM node of a term before clear is none.
    static void promise04_numBeforeClearIsBad() {
        ClosureFlow x = fed("+ 1 2");
        x.clear();
        refusesNumber(x, 1);
        feed(x, "+ L");
        refusesNumber(x, 1);
        refusesNumber(x, 2);
    }

    // "Otherwise, whether the term is complete or not, .. 0 is answered."
    static void promise04_incompleteTermToo() {
        ClosureFlow x = fed("+ 5");
        due("setNumber(1, 8)", x.setNumber(1, 8), 0);
        due("look(1, 1)", x.look(1, 1), 8);
        due("stage()", x.stage(), -1);
        feed(x, "3");
        ends(x, NUMBER, 11, -1, 0, 0);
    }

    // "the operand of that node becomes value (any int)"
    static void promise04_anyInt() {
        for (int value : INTS) {
            ClosureFlow x = fed("+ 5 6");
            due("setNumber(2, " + value + ")", x.setNumber(2, value), 0);
            due("look(2, 1)", x.look(2, 1), value);
            due("the other operand", x.look(1, 1), 5);
            ends(x, NUMBER, 5 + value, -1, 0, 0);
        }
    }

    // "both records become NOT_RUN"
    static void promise04_bothRecordsBecomeNotRun() {
        // One term for each way in which a run can end.
        String[] terms = {SUM, SUM.replace("3", "99"), "@ ? 0 L L 1 1 2", "+ @ L v0 1 @ 2 3", CLOSURE_LOOP};
        for (String term : terms) {
            ClosureFlow x = ran(term);
            int node = 0;
            while (node < 48 && x.look(node, 0) != NUM) node++;
            due("setNumber", x.setNumber(node, 1), 0);
            noRecord(x, 0);
            noRecord(x, 1);
            for (int engine = 0; engine < 2; engine++) {
                for (int app = 0; app < 48; app++) {
                    due("called(" + engine + ", " + app + ")", x.called(engine, app), x.look(app, 0) == APP ? 0 : -1);
                }
            }
        }
    }

    // "This holds also if value equals the old operand."
    static void promise04_sameValueToo() {
        ClosureFlow x = ran(SUM);
        due("setNumber(6, 3)", x.setNumber(6, 3), 0);
        noRecord(x, 0);
        noRecord(x, 1);
        due("look(6, 1)", x.look(6, 1), 3);
    }

    // "both records become NOT_RUN": also for a number that no run meets.
    static void promise04_deadNumberToo() {
        ClosureFlow x = ran("? L 0 1 2");
        due("setNumber(3, 7)", x.setNumber(3, 7), 0);
        noRecord(x, 0);
        noRecord(x, 1);
    }

    // "The stage stays"
    static void promise04_stageStays() {
        ClosureFlow[] all = {fed("? 1"), fed("+ 0 1"), solved("+ 0 1"), compiled("+ 0 1"), ran("+ 0 1")};
        int[] stages = {-2, 0, 1, 2, 2};
        for (int i = 0; i < all.length; i++) {
            due("setNumber(1, 6)", all[i].setNumber(1, 6), 0);
            due("stage()", all[i].stage(), stages[i]);
        }
    }

    // "and so does everything answered from the solution"
    static void promise04_solutionStays() {
        for (String term : TERMS) {
            ClosureFlow x = solved(term);
            String before = solutionOf(x);
            for (int node = 0; node < 48; node++) x.setNumber(node, 1 - x.look(node, 1));
            same("solution of '" + term + "'", solutionOf(x), before);
        }
    }

    // "Later runs of both engines use the new int, without a new solve or compile."
    static void promise04_laterRunsUseTheNewInt() {
        for (int engine = 0; engine < 2; engine++) {
            ClosureFlow x = compiled("? 0 @ L + v0 1 10 @ L - v0 100 20");
            int[][] steps = {{1, 0, 11}, {6, 2, 12}, {7, 40, 42}, {1, 1, -80}, {12, -1, 21}, {13, 5, 6}, {1, 0, 42}};
            for (int[] step : steps) {
                due("setNumber(" + step[0] + ", " + step[1] + ")", x.setNumber(step[0], step[1]), 0);
                due("run(" + engine + ")", x.run(engine), NUMBER);
                due("report(" + engine + ", 1)", x.report(engine, 1), step[2]);
            }
        }
    }

    // ---- Promise 5: the solution and solve ----

    // "1. node 0 is live"
    static void promise05_rule1_rootIsLive() {
        for (String term : TERMS) due("live(0) of '" + term + "'", solved(term).live(0), true);
    }

    // "2. both children of a live APP, ADD or SUB are live": also if one of them can have no value.
    static void promise05_rule2_bothChildrenAreLive() {
        for (String kind : new String[] {"@", "+", "-"}) {
            lives(kind + " 1 2", "111");
            lives(kind + " @ 1 2 3", "11111");
            lives(kind + " 3 @ 1 2", "11111");
            lives(kind + " L 0 @ 1 2", "110111");
        }
    }

    // "2. .. of a live APP, ADD or SUB": the children of one that is not live are not made live.
    static void promise05_rule2_deadNodesGiveNothing() {
        for (String kind : new String[] {"@", "+", "-"}) lives("? L " + kind + " 1 2 " + kind + " 1 2 3", "110000000");
        lives("L ? 0 1 2", "10000");
    }

    // "2. .. and the test of a live IF0 is live"
    static void promise05_rule2_testIsLive() {
        lives("? L 0 1 2", "11000");
        lives("? @ 1 2 3 4", "111100");
    }

    // "3. for a live NUM n, "number" is in S(n)"
    static void promise05_rule3_liveNum() {
        for (int value : INTS) flows("" + value, ANY);
        flows("L 5", 1, 0);
        flows("? L 0 1 2", 0, 1, 0, 0, 0);
    }

    // "4. for a live LAM n of lambda number l, l is in S(n)": from the first lambda to the last.
    static void promise05_rule4_liveLam() {
        flows("L v0", 1, 0);
        ClosureFlow x = solved("@ L L L L L 0 @ L L L L L 0 @ L L L L L 0 L v0");
        due("flow of lambda 0", x.flow(1), 1);
        due("flow of lambda 10", x.flow(15), 1 << 10);
        due("flow of lambda 15", x.flow(21), 1 << 15);
        flows("L L v0", 1, 0, 0);
    }

    // "5. for a live VAR n with a binder of lambda number l, P(l) is contained in S(n)"
    static void promise05_rule5_liveVar() {
        flows("@ L v0 7", ANY, 1, ANY, ANY);
        flows("@ L v0 L v0", 2, 1, 2, 2, 0);
        flows("@ L v0 ? 0 1 L 0", ANY | 2, 1, ANY | 2, ANY | 2, ANY, ANY, 2, 0);
        flows("@ @ L L v1 L 0 7", 4, 2, 1, 2, 4, 4, 0, ANY);
    }

    // "5. for a live VAR": one that is not live has the empty set, whatever P(l) is.
    static void promise05_rule5_deadVar() {
        ClosureFlow x = solved("@ L ? L 0 v0 v0 7");
        due("param(0)", x.param(0), ANY);
        due("flow of the first VAR", x.flow(5), 0);
        due("flow of the second VAR", x.flow(6), 0);
    }

    // "6. for a live ADD or SUB n with "number" in the sets S of both children, "number" is in S(n)"
    static void promise05_rule6_bothNeedANumber() {
        for (String kind : new String[] {"+", "-"}) {
            flows(kind + " 1 2", ANY);
            flows(kind + " L 0 2", 0);
            flows(kind + " 1 L 0", 0);
            flows(kind + " L 0 L 0", 0);
            flows(kind + " 1 @ 1 2", 0);
            flows(kind + " @ 1 2 1", 0);
        }
    }

    // "6. .. "number" is in S(n)": and nothing else, also where lambdas may come too.
    static void promise05_rule6_numberAlone() {
        for (String kind : new String[] {"+", "-"}) {
            flows(kind + " ? 0 1 L 0 2", ANY);
            flows(kind + " 2 ? 0 1 L 0", ANY);
            flows(kind + " ? 0 1 L 0 ? 0 2 L 0", ANY);
            flows("@ L " + kind + " v0 v0 ? 0 1 L 0", ANY, 1, ANY, ANY | 2, ANY | 2);
            flows("@ L " + kind + " v0 v0 L 0", 0, 1, 0, 2, 2);
        }
    }

    // "7. for a live IF0 n with "number" in S(test): then and else are live, and S(then) and S(else) are contained
    // in S(n)"
    static void promise05_rule7_bothBranches() {
        for (int value : INTS) {
            lives("? " + value + " L 0 3", "11101");
            flows("? " + value + " L 0 3", ANY | 1, ANY, 1, 0, ANY);
            flows("? " + value + " 3 L 0", ANY | 1, ANY, ANY, 1, 0);
        }
        lives("? ? 0 1 L 0 5 6", "11111011");
    }

    // "7. .. with "number" in S(test)": without it neither branch is live, and S(n) is empty.
    static void promise05_rule7_testWithoutNumber() {
        lives("? L 0 5 6", "11000");
        flows("? L 0 5 6", 0);
        lives("? @ 1 2 5 6", "111100");
        flows("? @ 1 2 5 6", 0);
        lives("? + L 0 1 5 6", "1110100");
    }

    // "8. for a live APP .. and for each lambda l in S(f), if S(a) is not empty: the body b of l is live .."
    static void promise05_rule8_call() {
        lives("@ L 3 7", "1111");
        flows("@ L L 3 7", 2, 1, 2, 0, ANY);
        due("param(0)", solved("@ L 3 7").param(0), ANY);
        due("param(0) with a lambda", solved("@ L 3 L 4").param(0), 2);
    }

    // "8. .. if S(a) is not empty": with an empty S(a) nothing is called.
    static void promise05_rule8_emptyArgument() {
        for (String argument : new String[] {"@ 1 2", "+ 1 L 0", "? L 0 1 2"}) {
            ClosureFlow x = solved("@ L 3 " + argument);
            due("live body", x.live(2), false);
            due("param(0)", x.param(0), 0);
            due("flow(0)", x.flow(0), 0);
        }
    }

    // "8. .. for each lambda l in S(f)": none with an empty S(f) or with "number" alone, all of several.
    static void promise05_rule8_eachLambda() {
        flows("@ 5 7", 0);
        flows("@ 5 L 1", 0, ANY, 1, 0);
        due("param(0) beside a number called", solved("@ 5 L 1").param(0), 0);
        flows("@ @ 1 2 7", 0);
        flows("@ ? 0 L 1 L L 2 7", ANY | 4, 3);
        lives("@ ? 0 L 1 L L 2 7", "111111101");
        ClosureFlow x = solved("@ ? 0 L v0 8 L 2");
        due("param(0) of a lambda beside a number", x.param(0), 2);
        due("flow(0) of a lambda beside a number", x.flow(0), 2);
        ClosureFlow all = solved(ALL_SIXTEEN);
        for (int lambda = 3; lambda < 16; lambda++) due("param(" + lambda + ")", all.param(lambda), ANY);
    }

    // "It is the smallest choice": a loop answers nothing, though all of it is live.
    static void promise05_smallestChoice() {
        lives(OMEGA, "111111111");
        flows(OMEGA, 0, 1, 0, 2, 2, 2, 0, 2, 2);
        lives("@ L 7 L @ v0 v0", "1111000");
        due("param of a lambda never called", solved("@ L 7 L @ v0 v0").param(1), 0);
        flows("@ L + @ v0 1 @ v0 L 0 L v0", ANY, 1, ANY, ANY | 2, 4, ANY, ANY | 2, 4, 2, 0, 4, ANY | 2);
    }

    // "It is the smallest choice": solved again it is the same, and nothing of an older solution is left.
    static void promise05_smallestChoiceAgain() {
        for (String term : TERMS) {
            ClosureFlow x = fed("");
            feed(x, ALL_SIXTEEN).solve();
            x.clear();
            feed(x, term).solve();
            String once = solutionOf(x);
            same("solution of '" + term + "' after another", once, solutionOf(solved(term)));
            x.solve();
            same("solution of '" + term + "' again", solutionOf(x), once);
        }
    }

    // "The solution does not depend on the ints in NUM nodes."
    static void promise05_intsDoNotMatter() {
        for (String term : TERMS) {
            for (int value : INTS) {
                ClosureFlow x = fed(term);
                for (int node = 0; node < 48; node++) x.setNumber(node, value);
                x.solve();
                same("solution of '" + term + "' with " + value, solutionOf(x), solutionOf(solved(term)));
            }
        }
    }

    // "1 << l for lambda number l, ANY_NUMBER for "number"; the empty set is 0"
    static void promise05_masks() {
        due("a number", solved("5").flow(0), 65536);
        due("lambda 0", solved("L 5").flow(0), 1);
        due("the empty set of a live node", solved("@ 1 2").flow(0), 0);
        due("the empty set of a parameter", solved("L 5").param(0), 0);
        ClosureFlow x = solved("@ L v0 ? 0 L L L L 1 ? 0 L L L L L 1 ? 0 L L L L L 1 ? 0 L v0 7");
        due("lambdas 1, 5, 10, 15 and a number", x.param(0), 1 << 1 | 1 << 5 | 1 << 10 | 1 << 15 | 65536);
    }

    // "solve(): if the term is not complete, NOT_READY, and nothing changes."
    static void promise05_incompleteIsNotReady() {
        for (String term : INCOMPLETE) {
            ClosureFlow x = fed(term);
            refuses(x, "solve()", x::solve, NOT_READY);
        }
        ClosureFlow x = cleared(ran(SUM));
        refuses(x, "solve() after clear", x::solve, NOT_READY);
    }

    // "the number of live nodes is answered": from one to all of 48, and not the dead ones.
    static void promise05_answersTheLiveNodes() {
        String[] terms = {"5", "L v0", "@ 1 2", "? L 0 1 2", "@ L 7 L @ v0 v0", OMEGA, SUM, ALL_SIXTEEN};
        int[] counts = {1, 1, 3, 2, 4, 9, 21, 35};
        for (int i = 0; i < terms.length; i++) due("solve() of '" + terms[i] + "'", fed(terms[i]).solve(), counts[i]);
        ClosureFlow full = fed("");
        for (int step = 0; step < 48 && full.stage() < 0; step++) {
            if (full.put(IF0, 0) < 0 && full.put(ADD, 0) < 0) full.put(NUM, 0);
        }
        due("the last of 48 nodes", full.look(47, 0), NUM);
        due("solve() of 48 live nodes", full.solve(), 48);
    }

    // "stage 0 becomes 1, stages 1 and 2 stay"
    static void promise05_stageAfterSolve() {
        for (String term : TERMS) {
            ClosureFlow x = fed(term);
            int count = x.solve();
            due("stage() solved once", x.stage(), 1);
            due("solve() at stage 1", x.solve(), count);
            due("stage() solved twice", x.stage(), 1);
            x.compile();
            due("solve() at stage 2", x.solve(), count);
            due("stage() solved when compiled", x.stage(), 2);
            due("run(1) after solve at stage 2", x.run(1) > 0, true);
        }
    }

    // "The term and the records stay."
    static void promise05_termAndRecordsStay() {
        for (String term : TERMS) {
            for (ClosureFlow x : states(term)) {
                String before = termOf(x) + recordOf(x, 0) + recordOf(x, 1);
                x.solve();
                same("term and records of '" + term + "'", termOf(x) + recordOf(x, 0) + recordOf(x, 1), before);
            }
        }
    }

    // ---- Promise 6: compile ----

    // "If the stage is below 1: NOT_READY, and nothing changes." An incomplete term.
    static void promise06_incompleteIsNotReady() {
        for (String term : INCOMPLETE) {
            ClosureFlow x = fed(term);
            refuses(x, "compile()", x::compile, NOT_READY);
        }
    }

    // "If the stage is below 1: NOT_READY, and nothing changes." A complete term, not solved.
    static void promise06_unsolvedIsNotReady() {
        for (String term : TERMS) {
            ClosureFlow x = fed(term);
            refuses(x, "compile()", x::compile, NOT_READY);
            x.run(0);
            refuses(x, "compile() after run(0)", x::compile, NOT_READY);
            ClosureFlow again = feed(cleared(ran(SUM)), term);
            refuses(again, "compile() of the term after clear", again::compile, NOT_READY);
        }
    }

    // "Otherwise the stage becomes (or stays) 2"
    static void promise06_stageBecomesOrStays2() {
        for (String term : TERMS) {
            ClosureFlow x = solved(term);
            int kept = x.compile();
            due("stage() compiled once", x.stage(), 2);
            due("compile() again", x.compile(), kept);
            due("stage() compiled twice", x.stage(), 2);
        }
    }

    // "the number of lambdas of the term whose form is not DROPPED is answered": from none to sixteen.
    static void promise06_answersTheLambdasNotDropped() {
        String[] terms = {"5", "L v0", "@ L 7 @ 1 2", "@ L 7 L @ v0 v0", CHOOSER, SUM, TWICE, SIXTEEN, ALL_SIXTEEN};
        int[] counts = {0, 0, 0, 1, 2, 3, 4, 4, 16};
        for (int i = 0; i < terms.length; i++) {
            ClosureFlow x = solved(terms[i]);
            due("compile() of '" + terms[i] + "'", x.compile(), counts[i]);
            int kept = 0;
            for (int lambda = 0; lambda < 16; lambda++) kept += x.form(lambda) > DROPPED ? 1 : 0;
            due("forms that are not DROPPED", kept, counts[i]);
        }
    }

    // "The term, the solution and the records stay."
    static void promise06_allElseStays() {
        for (String term : TERMS) {
            for (ClosureFlow x : states(term)) {
                if (x.stage() < 1) continue;
                String before = termOf(x) + solutionOf(x) + recordOf(x, 0) + recordOf(x, 1);
                x.compile();
                same("all else of '" + term + "'", termOf(x) + solutionOf(x) + recordOf(x, 0) + recordOf(x, 1), before);
            }
        }
    }

    // ---- Promise 7: evaluation and run ----

    // "run(engine): if engine is not 0 or 1, BAD." Too small.
    static void promise07_engineBelow0IsBad() {
        for (int engine : NEGATIVE) {
            for (ClosureFlow x : states(SUM)) refuses(x, "run(" + engine + ")", () -> x.run(engine), BAD);
        }
    }

    // "run(engine): if engine is not 0 or 1, BAD." Too large.
    static void promise07_engineAbove1IsBad() {
        for (int engine : new int[] {2, 3, 16, 65536, 65537, GREATEST}) {
            for (ClosureFlow x : states(SUM)) refuses(x, "run(" + engine + ")", () -> x.run(engine), BAD);
        }
    }

    // "if engine is not 0 or 1, BAD. Otherwise .. NOT_READY": BAD comes first.
    static void promise07_badComesBeforeNotReady() {
        for (String term : INCOMPLETE) {
            for (int engine : new int[] {LEAST, -1, 2, GREATEST}) {
                ClosureFlow x = fed(term);
                refuses(x, "run(" + engine + ")", () -> x.run(engine), BAD);
            }
        }
    }

    // "if the term is not complete .. NOT_READY."
    static void promise07_incompleteIsNotReady() {
        for (String term : INCOMPLETE) {
            ClosureFlow x = fed(term);
            refuses(x, "run(0)", () -> x.run(0), NOT_READY);
            refuses(x, "run(1)", () -> x.run(1), NOT_READY);
        }
    }

    // "or engine is COMPILED and the stage is below 2, NOT_READY."
    static void promise07_compiledNeedsStage2() {
        for (String term : TERMS) {
            for (ClosureFlow x : states(term)) {
                if (x.stage() < 2) refuses(x, "run(1) at stage " + x.stage(), () -> x.run(1), NOT_READY);
                else due("run(1) at stage 2", x.run(1) > 0, true);
            }
        }
    }

    // "INTERPRETER needs only a complete term."
    static void promise07_interpreterNeedsOnlyACompleteTerm() {
        for (int stage = 0; stage < 3; stage++) {
            ClosureFlow x = stage == 0 ? fed(SUM) : stage == 1 ? solved(SUM) : compiled(SUM);
            due("run(0) at stage " + stage, x.run(0), NUMBER);
            due("report(0, 1) at stage " + stage, x.report(0, 1), 6);
            due("stage() after run(0)", x.stage(), stage);
        }
    }

    // "the record of this engine only is replaced" "The record of the other engine .. stay."
    static void promise07_onlyTheRecordOfThisEngine() {
        for (String term : TERMS) {
            for (int engine = 0; engine < 2; engine++) {
                ClosureFlow x = compiled(term);
                String none = recordOf(x, 1 - engine);
                x.run(engine);
                same("record of the other engine", recordOf(x, 1 - engine), none);
                String one = recordOf(x, engine);
                x.run(1 - engine);
                same("record of the engine run before", recordOf(x, engine), one);
            }
        }
    }

    // "the term is run from the start" "A run starts with the counts calls = 0 and closures = 0"
    static void promise07_everyRunStartsFromTheStart() {
        for (String term : TERMS) {
            for (int engine = 0; engine < 2; engine++) {
                ClosureFlow x = compiled(term);
                int how = x.run(engine);
                String first = recordOf(x, engine);
                for (int again = 0; again < 20; again++) due("run again", x.run(engine), how);
                same("record of '" + term + "' run again", recordOf(x, engine), first);
            }
        }
    }

    // "A run starts with .. all called sets empty"
    static void promise07_calledSetsStartEmpty() {
        for (int engine = 0; engine < 2; engine++) {
            ClosureFlow x = compiled(CHOOSER);
            for (int test = 0; test < 4; test++) {
                x.setNumber(2, test % 2);
                x.run(engine);
                due("called(" + engine + ", 0)", x.called(engine, 0), test % 2 == 0 ? 1 : 2);
            }
        }
    }

    // "The record of the other engine, the term, the solution and the stage stay."
    static void promise07_termSolutionAndStageStay() {
        for (String term : TERMS) {
            ClosureFlow x = compiled(term);
            String before = x.stage() + termOf(x) + solutionOf(x);
            x.run(0);
            x.run(1);
            same("term, solution and stage of '" + term + "'", x.stage() + termOf(x) + solutionOf(x), before);
        }
    }

    // "NUM: its operand." "any int"
    static void promise07_numIsItsOperand() {
        for (int value : INTS) {
            ends("" + value, NUMBER, value, -1, 0, 0);
            ends("@ L v0 " + value, NUMBER, value, -1, 1, 1);
            ends("@ @ L L v1 " + value + " 7", NUMBER, value, -1, 2, 2);
        }
    }

    // "VAR: the value bound to its binder": from the innermost of five LAMs to the outermost.
    static void promise07_varIsTheValueOfItsBinder() {
        for (int k = 0; k < 5; k++) {
            ends("@ @ @ @ @ L L L L L v" + k + " 10 11 12 13 14", NUMBER, 14 - k, -1, 5, 5);
            // The same, but the last call is made from inside another one.
            ends("@ L @ v0 14 @ @ @ @ L L L L L v" + k + " 10 11 12 13", NUMBER, 14 - k, -1, 6, 6);
        }
        ends("@ @ L L v0 5 L 1", FUNCTION, 2, -1, 2, 3);
        // The bindings are those of the place where the LAM stands, not of the place of the call.
        ends("@ L @ L @ L @ v1 5 100 L + v1 v0 1", NUMBER, 6, -1, 4, 4);
    }

    // "VAR: the value bound to its binder": each call has bindings of its own, also while others are under way.
    static void promise07_everyCallHasItsOwnBindings() {
        ends("@ L + @ v0 1 @ v0 20 L + v0 v0", NUMBER, 42, -1, 3, 2);
        ends("@ L @ v0 @ v0 @ v0 5 L + v0 1", NUMBER, 8, -1, 4, 2);
        ends(SUM, NUMBER, 6, -1, 9, 6);
        ends("@ L - @ @ v0 50 1 @ @ v0 7 2 L L - v1 v0", NUMBER, 44, -1, 5, 4);
    }

    // "LAM: if closures equals the closure limit, the run ends OUT_OF_CLOSURES at this node."
    static void promise07_outOfClosuresAtTheLimit() {
        ends(48, 4, "@ @ @ @ L L L L L 1 1 2 3 4", OUT_OF_CLOSURES, 0, 8, 4, 4);
        ends(48, 5, "@ @ @ @ L L L L L 1 1 2 3 4", FUNCTION, 4, -1, 4, 5);
        ends(48, 4, "@ L @ L @ L @ L L 0 1 1 1 1", OUT_OF_CLOSURES, 0, 8, 4, 4);
        ends(48, 64, CLOSURE_LOOP, OUT_OF_CLOSURES, 0, 10, 43, 64);
    }

    // "if closures equals the closure limit": as many closures as the limit are no fault.
    static void promise07_justAsManyClosuresAsTheLimit() {
        ends(48, 4, "@ L @ L @ L @ L 9 1 1 1 1", NUMBER, 9, -1, 4, 4);
        ends(48, 4, "@ @ @ L L L L 0 1 2 3", FUNCTION, 3, -1, 3, 4);
        // Eight turns of five calls and seven closures, and a few around them.
        String turns = "@ L @ @ v0 v0 8 L L ? v0 0 + @ @ @ L L L 1 L 0 L 0 L 0 @ @ v1 v1 - v0 1";
        String many = "@ L v0 @ L v0 @ @ L L v1 " + turns + " L 0";
        ends(48, 64, many, NUMBER, 8, -1, 47, 64);
        ends(48, 63, many, OUT_OF_CLOSURES, 0, 44, 44, 63);
    }

    // "Otherwise closures grows by 1": once for each LAM evaluated, and not when its closure is handed on or called.
    static void promise07_closuresGrowByOne() {
        ends("L v0", FUNCTION, 0, -1, 0, 1);
        ends("@ L v0 L v0", FUNCTION, 1, -1, 1, 2);
        ends("@ L @ @ v0 v0 v0 L v0", FUNCTION, 1, -1, 3, 2);
        ends("@ L L v1 5", FUNCTION, 1, -1, 1, 2);
    }

    // "Arithmetic wraps as Java int arithmetic does." ADD
    static void promise07_addWraps() {
        ends("+ 2147483647 1", NUMBER, LEAST, -1, 0, 0);
        ends("+ -2147483648 -1", NUMBER, GREATEST, -1, 0, 0);
        ends("+ 2147483647 2147483647", NUMBER, -2, -1, 0, 0);
        ends("+ -2147483648 -2147483648", NUMBER, 0, -1, 0, 0);
    }

    // "Arithmetic wraps as Java int arithmetic does." SUB
    static void promise07_subWraps() {
        ends("- -2147483648 1", NUMBER, GREATEST, -1, 0, 0);
        ends("- 2147483647 -1", NUMBER, LEAST, -1, 0, 0);
        ends("- 0 -2147483648", NUMBER, LEAST, -1, 0, 0);
        ends("- -2147483648 2147483647", NUMBER, 1, -1, 0, 0);
    }

    // "Arithmetic wraps": what wraps to 0 is 0 for IF0, and what has wrapped counts on.
    static void promise07_wrappedNumbersCount() {
        ends("? + -2147483648 -2147483648 1 2", NUMBER, 1, -1, 0, 0);
        ends("? + 2147483647 1 1 2", NUMBER, 2, -1, 0, 0);
        ends("- + 2147483647 1 1", NUMBER, GREATEST, -1, 0, 0);
        ends("@ L + v0 1 2147483647", NUMBER, LEAST, -1, 1, 1);
    }

    // "ADD, SUB: evaluates left, then right": the left ends the run before the right is begun.
    static void promise07_leftBeforeRight() {
        for (String kind : new String[] {"+", "-"}) {
            ends(kind + " @ 1 2 @ 3 4", STUCK, 0, 1, 0, 0);
            ends(kind + " @ 1 2 L 0", STUCK, 0, 1, 0, 0);
            ends(4, 64, kind + " " + OMEGA + " @ 1 2", OUT_OF_CALLS, 0, 7, 4, 2);
        }
    }

    // "then, if either is a closure, the run ends STUCK at this node": the left, the right, or both.
    static void promise07_arithmeticOnAClosureIsStuck() {
        for (String kind : new String[] {"+", "-"}) {
            ends(kind + " L 0 1", STUCK, 0, 0, 0, 1);
            ends(kind + " 1 L 0", STUCK, 0, 0, 0, 1);
            ends(kind + " L 0 L 0", STUCK, 0, 0, 0, 2);
            ends("? 0 " + kind + " 1 @ L v0 L 0 5", STUCK, 0, 2, 1, 2);
        }
    }

    // "then, if either is a closure": the right is evaluated first, also when the left is a closure.
    static void promise07_rightIsEvaluatedBeforeStuck() {
        for (String kind : new String[] {"+", "-"}) {
            ends(kind + " L 0 @ 3 4", STUCK, 0, 3, 0, 1);
            ends(kind + " L 0 @ L 5 6", STUCK, 0, 0, 1, 2);
            ends(48, 4, kind + " L 0 @ L @ L @ L L 0 1 1 1", OUT_OF_CLOSURES, 0, 9, 3, 4);
        }
    }

    // "IF0: evaluates test; if it is a closure, the run ends STUCK at this node"
    static void promise07_closureAsTestIsStuck() {
        ends("? L 0 1 2", STUCK, 0, 0, 0, 1);
        ends("? ? 0 L 0 1 1 2", STUCK, 0, 0, 0, 1);
        ends("+ 1 ? @ L v0 L 0 1 2", STUCK, 0, 2, 1, 2);
    }

    // "otherwise the value is that of then if the test is 0, of else if not"
    static void promise07_onlyZeroChoosesThen() {
        for (int test : INTS) {
            ends("? " + test + " 10 20", NUMBER, test == 0 ? 10 : 20, -1, 0, 0);
            ends("@ L ? v0 10 20 " + test, NUMBER, test == 0 ? 10 : 20, -1, 1, 1);
        }
    }

    // "The branch not chosen is not evaluated."
    static void promise07_otherBranchIsNotEvaluated() {
        for (String other : new String[] {"@ 1 1", "L 0", "+ 1 L 0", "? L 0 1 2", OMEGA}) {
            ends("? 0 5 " + other, NUMBER, 5, -1, 0, 0);
            ends("? 1 " + other + " 5", NUMBER, 5, -1, 0, 0);
        }
    }

    // "APP: evaluates function, then argument": the function ends the run before the argument is begun.
    static void promise07_functionBeforeArgument() {
        ends("@ @ 1 2 @ 3 4", STUCK, 0, 1, 0, 0);
        ends("@ @ 1 2 L 0", STUCK, 0, 1, 0, 0);
        ends(48, 4, "@ @ @ @ @ L L L L L 0 1 1 1 1 @ 3 4", OUT_OF_CLOSURES, 0, 9, 4, 4);
    }

    // "then, if the function is a number, the run ends STUCK at this node"
    static void promise07_numberAsFunctionIsStuck() {
        for (int value : INTS) ends("@ " + value + " 2", STUCK, 0, 0, 0, 0);
        ends("@ ? 1 L v0 7 3", STUCK, 0, 0, 0, 0);
        ends("+ 1 @ @ L v0 5 3", STUCK, 0, 2, 1, 1);
    }

    // "then, if the function is a number": the argument is evaluated first, also then.
    static void promise07_argumentIsEvaluatedBeforeStuck() {
        ends("@ 1 L v0", STUCK, 0, 0, 0, 1);
        ends("@ 1 @ 3 4", STUCK, 0, 2, 0, 0);
        ends("@ 1 @ L v0 2", STUCK, 0, 0, 1, 1);
        ends("@ ? 1 L v0 7 @ 3 4", STUCK, 0, 6, 0, 0);
    }

    // "if the function is a number, .. STUCK ..; otherwise, if calls equals the call limit, .. OUT_OF_CALLS"
    static void promise07_stuckComesBeforeOutOfCalls() {
        ends(4, 64, "@ L @ L @ L @ L @ 7 8 1 1 1 1", STUCK, 0, 8, 4, 4);
        ends(4, 64, "@ L @ L @ L @ L @ v0 8 1 1 1 1", STUCK, 0, 8, 4, 4);
    }

    // "if calls equals the call limit, the run ends OUT_OF_CALLS at this node"
    static void promise07_outOfCallsAtTheLimit() {
        ends(4, 64, CALLS_IN_CALLS, OUT_OF_CALLS, 0, 8, 4, 5);
        ends(4, 64, OMEGA, OUT_OF_CALLS, 0, 6, 4, 2);
        ends(48, 64, OMEGA, OUT_OF_CALLS, 0, 6, 48, 2);
        // Calls count when they are made one after the other too, not only one in the other.
        ends(4, 64, "@ L + @ v0 1 + @ v0 2 + @ v0 3 @ v0 4 L v0", OUT_OF_CALLS, 0, 14, 4, 2);
    }

    // "if calls equals the call limit": as many calls as the limit are no fault.
    static void promise07_justAsManyCallsAsTheLimit() {
        ends(5, 64, CALLS_IN_CALLS, NUMBER, 0, -1, 5, 5);
        ends(4, 64, "@ L @ L @ L @ L 9 1 1 1 1", NUMBER, 9, -1, 4, 4);
        ends(4, 64, "@ L + @ v0 1 + @ v0 2 @ v0 3 L v0", NUMBER, 6, -1, 4, 2);
        String sum = "@ L v0 " + SUM;
        ends(48, 64, sum.replace("3", "22"), NUMBER, 253, -1, 48, 26);
        ends(48, 64, sum.replace("3", "23"), OUT_OF_CALLS, 0, 17, 48, 27);
        ends(47, 64, sum.replace("3", "22"), OUT_OF_CALLS, 0, 0, 47, 26);
    }

    // "evaluates function, then argument; .. otherwise, if calls equals the call limit": both are evaluated first.
    static void promise07_argumentIsEvaluatedBeforeOutOfCalls() {
        ends(4, 64, "@ L @ L @ L @ L @ L 0 L 1 1 1 1 1", OUT_OF_CALLS, 0, 8, 4, 6);
        ends(4, 64, "@ L @ L @ L @ L @ L 0 @ 3 4 1 1 1 1", STUCK, 0, 11, 4, 5);
        ends(4, 4, CALLS_IN_CALLS, OUT_OF_CLOSURES, 0, 9, 4, 4);
    }

    // "otherwise calls grows by 1, the lambda of the closure joins the called set of this node"
    static void promise07_lambdaJoinsTheCalledSet() {
        ClosureFlow x = ran(TWICE);
        for (int engine = 0; engine < 2; engine++) {
            due("called(" + engine + ", 0)", x.called(engine, 0), 1);
            due("called(" + engine + ", 3)", x.called(engine, 3), 8);
            due("called(" + engine + ", 12) after two lambdas", x.called(engine, 12), 2 | 4);
        }
    }

    // "if calls equals the call limit, the run ends": no lambda joins then, nor where the function is a number.
    static void promise07_noLambdaJoinsWithoutACall() {
        ClosureFlow x = feed(new ClosureFlow(48, 4, 64), CALLS_IN_CALLS);
        ends(x, OUT_OF_CALLS, 0, 8, 4, 5);
        ClosureFlow stuck = ran("@ ? 1 L v0 7 3");
        for (int engine = 0; engine < 2; engine++) {
            due("called(" + engine + ", 8) out of calls", x.called(engine, 8), 0);
            due("called(" + engine + ", 6) before that", x.called(engine, 6), 8);
            due("called(" + engine + ", 0) stuck", stuck.called(engine, 0), 0);
        }
    }

    // "under the bindings of the closure together with the argument bound to that lambda"
    static void promise07_bodyHasTheBindingsOfTheClosure() {
        ends("@ @ @ L L L + - v2 v1 v0 100 30 7", NUMBER, 77, -1, 3, 3);
        ends("@ L + @ v0 1 @ v0 2 @ L L + v1 v0 10", NUMBER, 23, -1, 4, 3);
        ends("@ @ L L @ L - v2 v0 v0 50 8", NUMBER, 42, -1, 3, 3);
    }

    // "as NUMBER if it is a number, as FUNCTION if it is a closure"
    static void promise07_endsWithTheValueOfNode0() {
        ends("5", NUMBER, 5, -1, 0, 0);
        ends("L 5", FUNCTION, 0, -1, 0, 1);
        ends("@ L v0 L 5", FUNCTION, 1, -1, 1, 2);
        ends("? 1 5 L 6", FUNCTION, 0, -1, 0, 1);
        ends("@ L 5 L 6", NUMBER, 5, -1, 1, 2);
        ends("@ L v0 ? 1 L L L L 1 ? 1 L L L L L 1 ? 1 L L L L L 1 L v0", FUNCTION, 15, -1, 1, 2);
    }

    // "There is no other limit on a run": as many frames and waiting values as the limits allow.
    static void promise07_noOtherLimit() {
        ends("@ L @ v0 v0 L + 1 + 1 + 1 + 1 @ v0 v0", OUT_OF_CALLS, 0, 14, 48, 2);
        ends("@ L @ v0 v0 L @ L 0 @ L 0 @ L 0 @ L 0 @ v0 v0", OUT_OF_CLOSURES, 0, 13, 17, 64);
        String deep = "@ L @ @ v0 v0 22 L L ? v0 0 + 1 + 1 @ @ v1 v1 - v0 1";
        ends(deep, NUMBER, 44, -1, 47, 25);
        // Thirty nodes in each of 47 calls.
        String wide = "@ L @ v0 v0 L + + + + 1 1 + 1 1 + + 1 1 + 1 1 + + + 1 1 + 1 1 + + 1 1 @ v0 v0";
        ends(wide, OUT_OF_CALLS, 0, 34, 48, 2);
    }

    // "both engines therefore give the same ending, value, node, counts and called sets"
    static void promise07_bothEnginesGiveTheSame() {
        for (String term : TERMS) {
            for (int calls : new int[] {4, 5, 9, 48}) {
                for (int closures : new int[] {4, 5, 6, 64}) {
                    ClosureFlow x = feed(new ClosureFlow(48, calls, closures), term);
                    x.solve();
                    x.compile();
                    due("run(1) of '" + term + "'", x.run(1), x.run(0));
                    same("records of '" + term + "'", recordOf(x, 1), recordOf(x, 0));
                }
            }
        }
    }

    // ---- Promise 8: stage ----

    // "term not complete: minus the number of holes (so -1 right after construction or clear)"
    static void promise08_minusTheHoles() {
        ClosureFlow x = fed("");
        due("stage() right after construction", x.stage(), -1);
        int[] kinds = {LAM, IF0, APP, NUM, SUB, VAR, NUM, ADD, NUM, NUM, NUM};
        int[] stages = {-1, -3, -4, -3, -4, -3, -2, -3, -2, -1, 0};
        for (int i = 0; i < kinds.length; i++) {
            due("put", x.put(kinds[i], 0), i);
            due("stage() after " + (i + 1) + " nodes", x.stage(), stages[i]);
        }
        x.clear();
        due("stage() right after clear", x.stage(), -1);
        due("stage() with many holes", fed("? ? ? ? ? L ? ? ? ? ? L ? ? ? ? ?").stage(), -31);
    }

    // "complete, not solved: 0"
    static void promise08_completeNotSolved() {
        for (String term : TERMS) {
            ClosureFlow x = fed(term);
            due("stage()", x.stage(), 0);
            x.run(0);
            due("stage() after run(0)", x.stage(), 0);
            x.compile();
            x.run(1);
            due("stage() after calls refused", x.stage(), 0);
        }
    }

    // "solved, not compiled: 1"
    static void promise08_solvedNotCompiled() {
        for (String term : TERMS) {
            ClosureFlow x = solved(term);
            due("stage()", x.stage(), 1);
            x.run(0);
            x.run(1);
            x.solve();
            due("stage() after runs", x.stage(), 1);
        }
    }

    // "compiled: 2"
    static void promise08_compiled() {
        for (String term : TERMS) {
            ClosureFlow x = compiled(term);
            due("stage()", x.stage(), 2);
            x.run(0);
            x.run(1);
            x.solve();
            x.put(NUM, 1);
            due("stage() after all else", x.stage(), 2);
        }
    }

    // ---- The questions change nothing: promises 8 to 17 ----

    private static String each(int last, IntFunction<Object> ask) {
        StringBuilder all = new StringBuilder();
        for (int i = -1; i <= last; i++) all.append(' ').append(ask.apply(i));
        return all.toString();
    }

    private static String goesOn(ClosureFlow x) {
        String runs = x.run(1) + " " + x.run(0) + " " + x.report(1, 1) + " " + x.report(0, 1);
        return runs + " " + x.put(NUM, 1) + " " + x.put(LAM, 1) + " " + x.solve() + " " + x.compile();
    }

    // One question for each, so that no other question stands between the one that is tested and its look.
    private static final List<Function<ClosureFlow, String>> PROBES = List.of(
        x -> "" + x.stage(), EdgeTests::termOf, x -> each(48, x::live), x -> each(48, x::flow), x -> each(16, x::param),
        x -> each(48, x::site), x -> each(16, x::form), x -> each(16, x::captures),
        x -> each(5, what -> x.report(0, what)), x -> each(5, what -> x.report(1, what)),
        x -> each(48, node -> x.called(0, node)), x -> each(48, node -> x.called(1, node)), EdgeTests::goesOn);

    /** Asks one object in each state, and then compares it with a twin that was not asked. */
    private static void asks(String question, ObjIntConsumer<ClosureFlow> ask) {
        int[] asked = {LEAST, -2, -1, 0, 1, 2, 3, 4, 5, 6, 7, 15, 16, 47, 48, 65536, GREATEST};
        for (Function<ClosureFlow, String> probe : PROBES) {
            List<ClosureFlow> all = allStates();
            List<ClosureFlow> twins = allStates();
            for (int i = 0; i < all.size(); i++) {
                for (int number : asked) ask.accept(all.get(i), number);
                String seen = probe.apply(all.get(i));
                same("what probe " + PROBES.indexOf(probe) + " sees after " + question, seen, probe.apply(twins.get(i)));
            }
        }
    }

    // "stage() answers, and changes nothing"
    static void promise08_changesNothing() {
        asks("stage()", (x, i) -> x.stage());
    }

    // "Nothing changes." (look)
    static void promise09_changesNothing() {
        for (int what = -1; what <= 4; what++) {
            int other = what;
            asks("look", (x, i) -> x.look(i, other));
        }
    }

    // "Nothing changes." (live)
    static void promise10_changesNothing() {
        asks("live", (x, i) -> x.live(i));
    }

    // "Nothing changes." (flow)
    static void promise11_changesNothing() {
        asks("flow", (x, i) -> x.flow(i));
    }

    // "Nothing changes." (param)
    static void promise12_changesNothing() {
        asks("param", (x, i) -> x.param(i));
    }

    // "Nothing changes." (site)
    static void promise13_changesNothing() {
        asks("site", (x, i) -> x.site(i));
    }

    // "Nothing changes." (form)
    static void promise14_changesNothing() {
        asks("form", (x, i) -> x.form(i));
    }

    // "Nothing changes." (captures)
    static void promise15_changesNothing() {
        asks("captures", (x, i) -> x.captures(i));
    }

    // "Nothing changes." (report)
    static void promise16_changesNothing() {
        for (int engine = -1; engine <= 2; engine++) {
            int one = engine;
            asks("report", (x, i) -> x.report(one, i));
        }
    }

    // "Nothing changes." (called)
    static void promise17_changesNothing() {
        for (int engine = -1; engine <= 2; engine++) {
            int one = engine;
            asks("called", (x, i) -> x.called(one, i));
        }
    }

    // ---- Promise 9: look ----

    private static final String LOOKED = "L @ L - v1 v0 ? 7 v0";

    // "look(node, what) works for incomplete terms too."
    static void promise09_incompleteTermsToo() {
        ClosureFlow x = fed(LOOKED);
        int[][] want = {
            {LAM, 0, -1, 0}, {APP, 0, 0, -1}, {LAM, 0, 1, 1}, {SUB, 0, 2, -1}, {VAR, 1, 3, 0}, {VAR, 0, 3, 1},
            {IF0, 0, 1, -1}, {NUM, 7, 6, -1}, {VAR, 0, 6, 0}};
        for (int node = 0; node < want.length; node++) {
            for (int what = 0; what < 4; what++) {
                due("look(" + node + ", " + what + ")", x.look(node, what), want[node][what]);
            }
        }
    }

    // "If node is not in the term (negative ..): -1."
    static void promise09_negativeNode() {
        for (ClosureFlow x : allStates()) {
            for (int node : NEGATIVE) {
                for (int what = 0; what < 4; what++) due("look(" + node + ", " + what + ")", x.look(node, what), -1);
            }
        }
    }

    // "(.. or not yet accepted): -1"
    static void promise09_nodeNotYetAccepted() {
        ClosureFlow x = fed("");
        String[] words = SUM.split(" ");
        for (int i = 0; i <= words.length; i++) {
            for (int what = 0; what < 4; what++) {
                for (int node : new int[] {i, i + 1, 47, 48, 49, 65536, GREATEST}) {
                    due("look(" + node + ", " + what + ") of " + i + " nodes", x.look(node, what), -1);
                }
            }
            if (i < words.length) feed(x, words[i]);
        }
        // The cells of an older, longer term are not in the term.
        due("look past a shorter term", feed(cleared(x), "5").look(1, 0), -1);
    }

    // "or what is not 0..3: -1"
    static void promise09_otherWhat() {
        ClosureFlow x = fed(LOOKED);
        for (int node = 0; node < 9; node++) {
            for (int what : NEGATIVE) due("look(" + node + ", " + what + ")", x.look(node, what), -1);
            for (int what : new int[] {4, 5, 48, 65536, GREATEST}) {
                due("look(" + node + ", " + what + ")", x.look(node, what), -1);
            }
        }
    }

    // "what 1: its operand as it now is (0 but for VAR and NUM)"
    static void promise09_operandAsItNowIs() {
        ClosureFlow x = fed("+ 5 L v0");
        for (int value : INTS) {
            x.setNumber(1, value);
            due("look(1, 1)", x.look(1, 1), value);
        }
        due("operand of VAR", x.look(3, 1), 0);
        due("operand of a VAR further out", fed("L L L v2").look(3, 1), 2);
        ClosureFlow others = fed("");
        for (int kind = IF0; kind >= LAM; kind--) others.put(kind, GREATEST);
        for (int node = 0; node < 5; node++) due("operand of another kind", others.look(node, 1), 0);
    }

    // "what 2: the number of its parent node (-1 for the root)"
    static void promise09_parentOfTheRoot() {
        for (String term : TERMS) {
            due("look(0, 2)", fed(term).look(0, 2), -1);
            for (int node = 1; node < term.split(" ").length; node++) {
                int parent = fed(term).look(node, 2);
                due("parent of " + node + " is before it", parent >= 0 && parent < node, true);
            }
        }
    }

    // "what 3: for LAM its lambda number, for VAR the lambda number of its binder, for others -1"
    static void promise09_lambdaNumbers() {
        ClosureFlow x = fed("? @ L + v0 L v1 - L v0 1 2 L L v1");
        int[] want = {-1, -1, 0, -1, 0, 1, 0, -1, 2, 2, -1, -1, 3, 4, 3};
        for (int node = 0; node < want.length; node++) due("look(" + node + ", 3)", x.look(node, 3), want[node]);
        due("the last lambda", fed(SIXTEEN).look(22, 3), 15);
        due("its variable", fed(SIXTEEN).look(23, 3), 15);
    }

    // ---- Promises 10 to 15: the stage and the numbers that they all refuse ----

    private static final int[] TOO_LARGE = {48, 49, 64, 65536, GREATEST};

    private static List<ClosureFlow> unsolvedStates() {
        List<ClosureFlow> all = new ArrayList<>();
        for (ClosureFlow x : allStates()) if (x.stage() < 1) all.add(x);
        // Solved once, then cleared: what was known is not known of the next term.
        all.add(cleared(ran(SUM)));
        all.add(feed(cleared(ran(SUM)), SUM));
        all.add(feed(cleared(ran(SUM)), "@ L v0"));
        return all;
    }

    // "live(node) is true exactly if the stage is at least 1"
    static void promise10_falseBelowStage1() {
        for (ClosureFlow x : unsolvedStates()) {
            for (int node = -1; node <= 48; node++) due("live(" + node + ")", x.live(node), false);
        }
    }

    // "live(node) is true exactly if the stage is at least 1": at stages 1 and 2, and after runs.
    static void promise10_trueFromStage1() {
        for (ClosureFlow x : states(SUM)) {
            for (int node = 0; node < 21; node++) due("live(" + node + ")", x.live(node), x.stage() >= 1);
        }
    }

    // "In every other case, including a number that is not a node of the term, it is false."
    static void promise10_falseOutsideTheTerm() {
        for (ClosureFlow x : states(SUM)) {
            for (int node : NEGATIVE) due("live(" + node + ")", x.live(node), false);
            for (int node : TOO_LARGE) due("live(" + node + ")", x.live(node), false);
            due("live(21)", x.live(21), false);
        }
        ClosureFlow shorter = feed(cleared(ran(SUM)), "5");
        shorter.solve();
        due("live(1) of a shorter term", shorter.live(1), false);
    }

    // "and node is a live node of the term": false for one that is not live.
    static void promise10_falseForDeadNodes() {
        lives("@ L 7 L @ v0 v0", "1111000");
        lives("? L 0 1 2", "11000");
        lives("L v0", "10");
    }

    // "flow(node): if the stage is below 1 ..: -1"
    static void promise11_belowStage1() {
        for (ClosureFlow x : unsolvedStates()) {
            for (int node = -1; node <= 48; node++) due("flow(" + node + ")", x.flow(node), -1);
        }
    }

    // "or node is not in the term: -1"
    static void promise11_outsideTheTerm() {
        for (ClosureFlow x : states(SUM)) {
            for (int node : NEGATIVE) due("flow(" + node + ")", x.flow(node), -1);
            for (int node : TOO_LARGE) due("flow(" + node + ")", x.flow(node), -1);
            due("flow(21)", x.flow(21), -1);
            if (x.stage() >= 1) due("flow(20)", x.flow(20), ANY);
        }
    }

    // "the mask of S(node), which is 0 for a node that is not live"
    static void promise11_zeroForDeadNodes() {
        flows("@ L 7 L @ v0 v0", ANY, 1, ANY, 2, 0, 0, 0);
        flows("? L 0 1 L 2", 0, 1, 0, 0, 0, 0);
    }

    // "param(lambda): if the stage is below 1 ..: -1"
    static void promise12_belowStage1() {
        for (ClosureFlow x : unsolvedStates()) {
            for (int lambda = -1; lambda <= 16; lambda++) due("param(" + lambda + ")", x.param(lambda), -1);
        }
    }

    // "or no lambda of this number is in the term: -1"
    static void promise12_noSuchLambda() {
        for (ClosureFlow x : states(SUM)) {
            for (int lambda : NEGATIVE) due("param(" + lambda + ")", x.param(lambda), -1);
            for (int lambda : TOO_LARGE) due("param(" + lambda + ")", x.param(lambda), -1);
            for (int lambda : new int[] {3, 4, 15, 16, 17}) due("param(" + lambda + ")", x.param(lambda), -1);
        }
        due("param(0) without lambdas", solved("5").param(0), -1);
        due("param(15) of sixteen", solved(SIXTEEN).param(15), ANY);
        due("param(16) of sixteen", solved(SIXTEEN).param(16), -1);
    }

    // "Otherwise the mask of P(lambda)": 0 for a lambda that is never called.
    static void promise12_emptyParam() {
        due("param of a lambda never called", solved("L v0").param(0), 0);
        due("param of a dead lambda", solved("L L v0").param(1), 0);
        due("param of a lambda called with nothing", solved("@ L 7 @ 1 2").param(0), 0);
        due("param with a number and a lambda", solved("@ L v0 ? 0 1 L 2").param(0), ANY | 2);
    }

    // ---- Promise 13: site ----

    // "site(node): if the stage is below 1 ..: -1"
    static void promise13_belowStage1() {
        for (ClosureFlow x : unsolvedStates()) {
            for (int node = -1; node <= 48; node++) due("site(" + node + ")", x.site(node), -1);
        }
    }

    // "or node is not in the term: -1"
    static void promise13_outsideTheTerm() {
        for (ClosureFlow x : states(SUM)) {
            for (int node : NEGATIVE) due("site(" + node + ")", x.site(node), -1);
            for (int node : TOO_LARGE) due("site(" + node + ")", x.site(node), -1);
            due("site(21)", x.site(21), -1);
        }
        ClosureFlow shorter = feed(cleared(ran("@ @ @ L v0 L v0 1 2")), "@ L 1 2");
        shorter.solve();
        due("site(4) of a shorter term", shorter.site(4), -1);
    }

    private static void site(String term, int node, int want) {
        due("site(" + node + ") of '" + term + "'", solved(term).site(node), want);
    }

    // "1. node is not an APP: NO_CALL (live or not)."
    static void promise13_noCallLiveOrNot() {
        ClosureFlow x = solved("? L ? + 1 2 - 3 4 L 5 ? + 1 9 6 7 8");
        for (int node = 0; node < nodesOf(x); node++) due("site(" + node + ")", x.site(node), NO_CALL);
        ClosureFlow called = solved("@ L ? v0 + v0 1 - v0 L v0 5");
        for (int node = 1; node < nodesOf(called); node++) due("site(" + node + ")", called.site(node), NO_CALL);
        site("@ L 7 L @ v0 v0", 5, NO_CALL);
    }

    // "2. It is not live: DEAD."
    static void promise13_dead() {
        site("L @ v0 v0", 1, DEAD);
        site("@ L 7 L @ v0 v0", 4, DEAD);
        site("? L 0 @ L 0 1 @ 1 1", 3, DEAD);
        site("? L 0 @ L 0 1 @ 1 1", 7, DEAD);
    }

    // "3. S(f) has no lambda ..: NEVER. (S(f) having only "number" is such a case.)"
    static void promise13_neverWithoutLambda() {
        site("@ 1 2", 0, NEVER);
        site("@ @ 1 2 3", 0, NEVER);
        site("@ + 1 L 0 3", 0, NEVER);
        site("@ ? 0 1 2 L 3", 0, NEVER);
    }

    // "3. .. or S(a) is empty: NEVER."
    static void promise13_neverWithoutArgument() {
        site("@ L 7 @ 1 2", 0, NEVER);
        site("@ ? 0 L 1 L 2 @ 1 2", 0, NEVER);
        site("@ ? 0 L 1 2 @ 1 2", 0, NEVER);
        site("@ 5 @ 1 2", 0, NEVER);
    }

    // "4. S(f) is exactly one lambda, without "number": KNOWN."
    static void promise13_known() {
        site("@ L 7 2", 0, KNOWN);
        site("@ L 7 L 2", 0, KNOWN);
        site(SIXTEEN, 0, KNOWN);
        site(SIXTEEN, 21, KNOWN);
        site("@ L 7 ? 0 1 L 2", 0, KNOWN);
    }

    // "5. Else: CHOICE. (One lambda together with "number" is such a case.)"
    static void promise13_choice() {
        site("@ ? 0 L v0 7 3", 0, CHOICE);
        site("@ ? 0 7 L v0 3", 0, CHOICE);
        site(CHOOSER, 0, CHOICE);
        site("@ ? 0 L v0 ? 0 L 1 7 3", 0, CHOICE);
        site(TWICE, 12, CHOICE);
        site(ALL_SIXTEEN, 12, CHOICE);
    }

    // ---- Promise 14: form ----

    // "form(lambda): if the stage is below 1 ..: -1"
    static void promise14_belowStage1() {
        for (ClosureFlow x : unsolvedStates()) {
            for (int lambda = -1; lambda <= 16; lambda++) due("form(" + lambda + ")", x.form(lambda), -1);
        }
    }

    // "or no lambda of this number is in the term: -1"
    static void promise14_noSuchLambda() {
        for (ClosureFlow x : states(SUM)) {
            for (int lambda : NEGATIVE) due("form(" + lambda + ")", x.form(lambda), -1);
            for (int lambda : TOO_LARGE) due("form(" + lambda + ")", x.form(lambda), -1);
            for (int lambda : new int[] {3, 4, 15, 16, 17}) due("form(" + lambda + ")", x.form(lambda), -1);
        }
        due("form(0) without lambdas", solved("5").form(0), -1);
        due("form(16) of sixteen", solved(SIXTEEN).form(16), -1);
    }

    private static void forms(String term, int... want) {
        ClosureFlow x = solved(term);
        for (int i = 0; i < want.length; i++) due("form(" + i + ") of '" + term + "'", x.form(i), want[i]);
    }

    // "1. its body is not live: DROPPED"
    static void promise14_dropped() {
        forms("L v0", DROPPED);
        forms("@ L 7 L v0", DIRECT, DROPPED);
        forms("@ L 7 @ 1 2", DROPPED);
        // Two lambdas before a call that never happens.
        forms("@ ? 0 L 1 L 2 @ 1 2", DROPPED, DROPPED);
        forms("L L v0", DROPPED, DROPPED);
    }

    // "2. some APP whose site is CHOICE has this lambda in S of its function child: SHARED"
    static void promise14_shared() {
        forms(CHOOSER, SHARED, SHARED);
        forms("@ ? 0 L v0 7 3", SHARED);
        forms(TWICE, DIRECT, SHARED, SHARED, DIRECT);
        // One site is KNOWN, but one CHOICE is enough, whichever comes first.
        forms("@ L + @ v0 1 @ ? 0 v0 L 6 2 L v0", DIRECT, SHARED, SHARED);
        forms("@ L + @ ? 0 v0 L 6 2 @ v0 1 L v0", DIRECT, SHARED, SHARED);
        due("form(15) of sixteen", solved("@ ? 0 L L L L L 1 ? 0 L L L L L 1 ? 0 L L L L L 1 L v0 7").form(15), SHARED);
    }

    // "3. else: DIRECT"
    static void promise14_direct() {
        forms("@ L 7 1", DIRECT);
        forms(SUM, DIRECT, DIRECT, DIRECT);
        forms(OMEGA, DIRECT, DIRECT);
        // A site that never calls is no CHOICE, even with two lambdas before it.
        forms("@ L + @ v0 1 @ ? 0 v0 L 6 @ 1 2 L v0", DIRECT, DROPPED, DIRECT);
        due("form(15) of sixteen", solved(SIXTEEN).form(15), DIRECT);
    }

    // ---- Promise 15: captures ----

    // "captures(lambda): if the stage is below 1 ..: -1"
    static void promise15_belowStage1() {
        for (ClosureFlow x : unsolvedStates()) {
            for (int lambda = -1; lambda <= 16; lambda++) due("captures(" + lambda + ")", x.captures(lambda), -1);
        }
    }

    // "or no lambda of this number is in the term: -1"
    static void promise15_noSuchLambda() {
        for (ClosureFlow x : states(SUM)) {
            for (int lambda : NEGATIVE) due("captures(" + lambda + ")", x.captures(lambda), -1);
            for (int lambda : TOO_LARGE) due("captures(" + lambda + ")", x.captures(lambda), -1);
            for (int lambda : new int[] {3, 4, 15, 16, 17}) due("captures(" + lambda + ")", x.captures(lambda), -1);
        }
        due("captures(0) without lambdas", solved("5").captures(0), -1);
        due("captures(16) of sixteen", solved(SIXTEEN).captures(16), -1);
    }

    private static void capturesOf(String term, int... want) {
        ClosureFlow x = solved(term);
        for (int i = 0; i < want.length; i++) due("captures(" + i + ") of '" + term + "'", x.captures(i), want[i]);
    }

    // "the binder of some live VAR under it": one that is not live does not count.
    static void promise15_onlyLiveVars() {
        capturesOf("L L v1", 0, 0);
        capturesOf("@ L L v1 5", 0, 0);
        capturesOf("@ @ L L v1 5 6", 0, 1);
        capturesOf("@ @ L L ? L 0 v1 v1 5 6", 0, 0, 0);
        capturesOf("@ @ L L ? 0 v1 L v2 5 6", 0, 1, 0);
    }

    // "at any depth under it"
    static void promise15_atAnyDepth() {
        capturesOf("@ @ @ L L L v2 1 2 3", 0, 1, 1);
        capturesOf("@ @ @ @ @ L L L L L v4 1 1 1 1 1", 0, 1, 1, 1, 1);
        capturesOf("@ @ @ @ @ L L L L L - v4 - v3 - v2 - v1 v0 1 1 1 1 1", 0, 1, 3, 7, 15);
        capturesOf("@ @ L L + 1 + 2 + 3 + 4 v1 5 6", 0, 1);
    }

    // "all LAMs that enclose the LAM of this lambda": not those under it or beside it.
    static void promise15_onlyEnclosingLams() {
        capturesOf("@ @ L L v0 5 6", 0, 0);
        capturesOf("@ L @ L @ L + v0 v1 1 2 3", 0, 0, 2);
        capturesOf("@ L @ v0 1 L v0", 0, 0);
        capturesOf("@ @ L @ L L v1 v0 5 6", 0, 0, 2);
    }

    // "As a LAM does not enclose itself, its own number is never in this mask."
    static void promise15_neverItsOwnNumber() {
        capturesOf("@ L v0 5", 0);
        capturesOf(OMEGA, 0, 0);
        for (String term : TERMS) {
            ClosureFlow x = solved(term);
            for (int lambda = 0; lambda < 16 && x.captures(lambda) >= 0; lambda++) {
                due("own number in captures(" + lambda + ")", x.captures(lambda) & 1 << lambda, 0);
            }
        }
        capturesOf("@ @ L L + v0 v1 5 6", 0, 1);
    }

    // "With no such LAM the answer is 0."
    static void promise15_none() {
        capturesOf("L 5", 0);
        capturesOf("@ L 5 6", 0);
        capturesOf("@ @ L L 5 6 7", 0, 0);
        due("captures(15)", solved(SIXTEEN).captures(15), 0);
    }

    // ---- Promise 16: report ----

    // "If engine is not 0 or 1 ..: 0"
    static void promise16_otherEngine() {
        for (String term : TERMS) {
            ClosureFlow x = ran(term);
            for (int what = 0; what < 5; what++) {
                for (int engine : NEGATIVE) due("report(" + engine + ", " + what + ")", x.report(engine, what), 0);
                for (int engine : new int[] {2, 3, 5, 65536, GREATEST}) {
                    due("report(" + engine + ", " + what + ")", x.report(engine, what), 0);
                }
            }
        }
    }

    // "or what is not 0..4 ..: 0"
    static void promise16_otherWhat() {
        for (String term : TERMS) {
            ClosureFlow x = ran(term);
            for (int engine = 0; engine < 2; engine++) {
                for (int what : NEGATIVE) due("report(" + engine + ", " + what + ")", x.report(engine, what), 0);
                for (int what : new int[] {5, 6, 7, 10, 65536, GREATEST}) {
                    due("report(" + engine + ", " + what + ")", x.report(engine, what), 0);
                }
            }
        }
    }

    // "or the record is NOT_RUN: 0 (for every what, also for 2)"
    static void promise16_notRun() {
        for (ClosureFlow x : List.of(fed(""), fed("@ L"), fed(SUM), solved(SUM), compiled(SUM), cleared(ran(SUM)))) {
            noRecord(x, 0);
            noRecord(x, 1);
        }
        ClosureFlow one = compiled(SUM);
        one.run(0);
        noRecord(one, 1);
        one.setNumber(6, 2);
        noRecord(one, 0);
        one.run(1);
        noRecord(one, 0);
    }

    // "what 0: how the run ended (1..5)."
    static void promise16_howItEnded() {
        String[] terms = {"5", "L v0", "@ 1 2", OMEGA, CLOSURE_LOOP};
        for (int i = 0; i < terms.length; i++) {
            ClosureFlow x = ran(terms[i]);
            for (int engine = 0; engine < 2; engine++) due("report(" + engine + ", 0)", x.report(engine, 0), i + 1);
        }
    }

    // "what 1: the int for NUMBER, the lambda number for FUNCTION, else 0."
    static void promise16_valueElse0() {
        for (int value : INTS) ends("" + value, NUMBER, value, -1, 0, 0);
        ends("@ L @ L v0 v0 L 5", FUNCTION, 2, -1, 2, 3);
        ends("@ 7 8", STUCK, 0, 0, 0, 0);
        ends(OMEGA, OUT_OF_CALLS, 0, 6, 48, 2);
        ends(CLOSURE_LOOP, OUT_OF_CLOSURES, 0, 10, 43, 64);
        // The value of the run before is gone when the next one has none.
        ClosureFlow x = compiled("? 0 5 @ 7 8");
        ends(x, NUMBER, 5, -1, 0, 0);
        x.setNumber(1, 1);
        ends(x, STUCK, 0, 3, 0, 0);
    }

    // "what 2: the node at which it ended for STUCK, OUT_OF_CALLS and OUT_OF_CLOSURES, else -1."
    static void promise16_nodeElseMinus1() {
        ends("5", NUMBER, 5, -1, 0, 0);
        ends("L 5", FUNCTION, 0, -1, 0, 1);
        ends("+ 1 @ 7 8", STUCK, 0, 2, 0, 0);
        ends("@ 7 8", STUCK, 0, 0, 0, 0);
        ends(4, 64, OMEGA, OUT_OF_CALLS, 0, 6, 4, 2);
        ends(48, 4, "@ L @ L @ L @ L L 0 1 1 1 1", OUT_OF_CLOSURES, 0, 8, 4, 4);
        // The node of the run before is gone when the next one has none.
        ClosureFlow x = compiled("? 1 5 @ 7 8");
        ends(x, STUCK, 0, 3, 0, 0);
        x.setNumber(1, 0);
        ends(x, NUMBER, 5, -1, 0, 0);
    }

    // "what 3: calls at its end. what 4: closures at its end." For each way in which a run can end.
    static void promise16_countsAtTheEnd() {
        ends(SUM, NUMBER, 6, -1, 9, 6);
        ends("@ L L v0 5", FUNCTION, 1, -1, 1, 2);
        ends("@ L + v0 v0 L 1", STUCK, 0, 2, 1, 2);
        ends(CLOSURE_LOOP, OUT_OF_CLOSURES, 0, 10, 43, 64);
        ends(7, 64, SUM, OUT_OF_CALLS, 0, 15, 7, 5);
    }

    // ---- Promise 17: called ----

    // "called(engine, node): if engine is not 0 or 1 ..: -1"
    static void promise17_otherEngine() {
        for (ClosureFlow x : states(CHOOSER)) {
            for (int engine : NEGATIVE) due("called(" + engine + ", 0)", x.called(engine, 0), -1);
            for (int engine : new int[] {2, 3, 65536, GREATEST}) {
                due("called(" + engine + ", 0)", x.called(engine, 0), -1);
            }
        }
    }

    // "or node is not an APP now in the term (not in the term ..): -1"
    static void promise17_nodeOutsideTheTerm() {
        for (ClosureFlow x : allStates()) {
            for (int engine = 0; engine < 2; engine++) {
                for (int node : NEGATIVE) due("called(" + engine + ", " + node + ")", x.called(engine, node), -1);
                for (int node : TOO_LARGE) due("called(" + engine + ", " + node + ")", x.called(engine, node), -1);
            }
        }
        ClosureFlow shorter = feed(cleared(ran("@ L v0 @ L v0 1")), "@ L");
        due("called(0, 3) of a shorter term", shorter.called(0, 3), -1);
        due("called(0, 2) not yet accepted", shorter.called(0, 2), -1);
    }

    // "(.. or of another kind): -1" Also before a run.
    static void promise17_otherKind() {
        for (ClosureFlow x : states("? @ L + v0 1 - 2 3 4 5")) {
            for (int engine = 0; engine < 2; engine++) {
                for (int node : new int[] {0, 2, 3, 4, 5, 6, 7, 8, 9, 10}) {
                    due("called(" + engine + ", " + node + ")", x.called(engine, node), -1);
                }
                due("called(" + engine + ", 1)", x.called(engine, 1), x.report(engine, 0) == 0 ? 0 : 1);
            }
        }
    }

    // "Otherwise, if the record of this engine is NOT_RUN: 0."
    static void promise17_notRun() {
        due("called of an incomplete term", fed("@ L").called(0, 0), 0);
        due("called at stage 0", fed(CHOOSER).called(0, 0), 0);
        ClosureFlow x = compiled(CHOOSER);
        x.run(0);
        due("called of the engine not run", x.called(1, 0), 0);
        due("called of the engine run", x.called(0, 0), 1);
        x.setNumber(11, 4);
        due("called after setNumber", x.called(0, 0), 0);
        x.run(1);
        due("called of the engine run after setNumber", x.called(1, 0), 1);
        due("called of the engine not run after setNumber", x.called(0, 0), 0);
    }

    // "1 << l for lambda number l": from lambda 0 to lambda 15, and several.
    static void promise17_masks() {
        for (int engine = 0; engine < 2; engine++) {
            due("lambda 0", ran(SIXTEEN).called(engine, 0), 1);
            due("lambda 5", ran(SIXTEEN).called(engine, 7), 1 << 5);
            due("lambda 15", ran(SIXTEEN).called(engine, 21), 1 << 15);
            due("lambdas 1 and 2", ran(TWICE).called(engine, 12), 6);
        }
    }

    // "at the end of the recorded run, however it ended"
    static void promise17_howeverItEnded() {
        String[] terms = {SUM, "@ L L v0 5", "@ L + v0 v0 L 1", OMEGA, CLOSURE_LOOP};
        for (int i = 0; i < terms.length; i++) {
            ClosureFlow x = ran(terms[i]);
            for (int engine = 0; engine < 2; engine++) {
                due("ending", x.report(engine, 0), i + 1);
                due("called(" + engine + ", 0) of '" + terms[i] + "'", x.called(engine, 0), 1);
            }
        }
        due("called(0, 6) at the end of a loop", ran(OMEGA).called(0, 6), 2);
    }

    // "0 if the set is empty": an APP that the run did not come to, or at which it ended.
    static void promise17_emptySet() {
        ClosureFlow x = ran("? 0 @ L 1 2 @ L 3 4");
        ClosureFlow stuck = ran("+ @ L v0 1 @ 2 3");
        for (int engine = 0; engine < 2; engine++) {
            due("called(" + engine + ", 2)", x.called(engine, 2), 1);
            due("called(" + engine + ", 6) not chosen", x.called(engine, 6), 0);
            due("called(" + engine + ", 1) before stuck", stuck.called(engine, 1), 1);
            due("called(" + engine + ", 5) stuck", stuck.called(engine, 5), 0);
        }
    }

    // ---- The run of the tests ----

    /** "Every call of this class always ends": a call that does not end must not hold up the tests for ever. */
    private static void watch() {
        Thread watcher = new Thread(() -> {
            try {
                Thread.sleep(120000);
            } catch (InterruptedException e) {
                return;
            }
            System.out.println(test + ": a call has not ended");
            Runtime.getRuntime().halt(1);
        });
        watcher.setDaemon(true);
        watcher.start();
    }

    private static void runTest(Method method) throws IllegalAccessException {
        test = method.getName();
        try {
            method.invoke(null);
        } catch (InvocationTargetException e) {
            fault("threw " + e.getCause());
        }
    }

    public static void main(String[] args) throws IllegalAccessException {
        watch();
        Method[] methods = EdgeTests.class.getDeclaredMethods();
        Arrays.sort(methods, (a, b) -> a.getName().compareTo(b.getName()));
        int[] perPromise = new int[PROMISES + 1];
        int count = 0;
        for (Method method : methods) {
            if (!method.getName().startsWith("promise")) continue;
            perPromise[Integer.parseInt(method.getName().substring(7, 9))]++;
            count++;
            runTest(method);
        }
        test = "all";
        for (int promise = 1; promise <= PROMISES; promise++) {
            if (perPromise[promise] == 0) fault("there is no test of promise " + promise);
        }
        System.out.println(wrong == 0
            ? "all " + checks + " answers of " + count + " tests are as due" : wrong + " answers are not as due");
        if (wrong != 0) System.exit(1);
    }
}
