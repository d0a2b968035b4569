import java.util.Scanner;

/** Hand-made checks, one method for each promise of the document: ordinary inputs, edges, wrong inputs. */
public final class PromiseTests {
    private static final int VAR = 0, NUM = 1, LAM = 2, APP = 3, ADD = 4, SUB = 5, IF0 = 6;
    private static final int BAD = -1, CLOSED = -2, UNBOUND = -3, FULL = -4, DEEP = -5, MANY = -6, NOT_READY = -7;
    private static final int NUMBER = 1, FUNCTION = 2, STUCK = 3, OUT_OF_CALLS = 4, OUT_OF_CLOSURES = 5;
    private static final int NO_CALL = 0, DEAD = 1, NEVER = 2, KNOWN = 3, CHOICE = 4;
    private static final int DROPPED = 0, DIRECT = 1, SHARED = 2;
    private static final int ANY = 65536;
    private static final int LEAST = Integer.MIN_VALUE, GREATEST = Integer.MAX_VALUE;
    // None of these is an engine, a node, a lambda or a `what` of any term.
    private static final int[] WRONG = {LEAST, LEAST + 1, -65536, -49, -2, -1, 48, 49, 64, 65536, GREATEST - 1, GREATEST};

    private static final String OMEGA = "@ L @ v0 v0 L @ v0 v0";
    private static final String CHOOSER = "@ ? 0 L + v0 1 L - v0 1 10";
    // sum(n) = n + sum(n - 1), by self-application.
    private static final String SUM = "@ L @ @ v0 v0 3 L L ? v0 0 + v0 @ @ v1 v1 - v0 1";
    // One function called with two others.
    private static final String TWICE = "@ L + @ v0 L v0 @ v0 L 5 L @ v0 1";
    // A loop of four calls and six closures a turn: the closures always run out first.
    private static final String CLOSURE_LOOP = "@ L @ v0 v0 L @ @ @ L L L @ v3 v3 L 0 L 0 L 0";
    // The last of sixteen lambdas is called at node 21.
    private static final String SIXTEEN = "@ L L L L L 0 @ L L L L L 0 @ L L L L L 0 @ L v0 7";
    private static final String[] TERMS = {
        "5", "L v0", OMEGA, CHOOSER, SUM, TWICE, CLOSURE_LOOP, "@ 1 2", "? L 0 1 2", "@ L 7 L @ v0 v0", SIXTEEN};

    private static int wrong = 0;
    private static int checks = 0;

    private static void due(int promise, String what, long got, long want) {
        checks++;
        if (got != want) {
            wrong++;
            System.out.println("promise " + promise + ": " + what + " answered " + got + ", due is " + want);
        }
    }

    private static void due(int promise, String what, boolean got, boolean want) {
        due(promise, what, got ? 1 : 0, want ? 1 : 0);
    }

    /** Feeds a term in prefix order: L is LAM, @ APP, + ADD, - SUB, ? IF0, v3 VAR 3, and an int is a NUM. */
    private static void feed(ClosureFlow x, String term) {
        for (Scanner words = new Scanner(term); words.hasNext(); ) {
            String word = words.next();
            int kind = "L@+-?".indexOf(word) + LAM;
            int operand = 0;
            if (kind < LAM) {
                kind = word.startsWith("v") ? VAR : NUM;
                operand = Integer.parseInt(kind == VAR ? word.substring(1) : word);
            }
            int answer = x.put(kind, operand);
            if (answer < 0) {
                due(2, "feeding '" + word + "' of '" + term + "'", answer, 0);
            }
        }
    }

    private static ClosureFlow fed(String term) {
        ClosureFlow x = new ClosureFlow(48, 48, 64);
        feed(x, term);
        return x;
    }

    private static ClosureFlow solved(String term) {
        ClosureFlow x = fed(term);
        x.solve();
        return x;
    }

    private static ClosureFlow compiled(String term) {
        ClosureFlow x = solved(term);
        x.compile();
        return x;
    }

    private static ClosureFlow ran(String term) {
        ClosureFlow x = compiled(term);
        x.run(0);
        x.run(1);
        return x;
    }

    private static String solution(ClosureFlow x) {
        StringBuilder all = new StringBuilder();
        for (int i = -1; i <= 48; i++) {
            all.append(' ').append(x.live(i)).append(' ').append(x.flow(i)).append(' ').append(x.site(i));
        }
        for (int i = -1; i <= 16; i++) {
            all.append(' ').append(x.param(i)).append(' ').append(x.form(i)).append(' ').append(x.captures(i));
        }
        return all.toString();
    }

    private static String term(ClosureFlow x) {
        StringBuilder all = new StringBuilder();
        for (int i = -1; i <= 48; i++) {
            for (int what = 0; what < 4; what++) all.append(' ').append(x.look(i, what));
        }
        return all.toString();
    }

    private static String record(ClosureFlow x, int engine) {
        StringBuilder all = new StringBuilder();
        for (int what = 0; what < 5; what++) all.append(' ').append(x.report(engine, what));
        for (int i = -1; i <= 48; i++) all.append(' ').append(x.called(engine, i));
        return all.toString();
    }

    /** Everything that can be asked, as one text: it must be the same before and after a refused call. */
    private static String everything(ClosureFlow x) {
        return x.stage() + term(x) + solution(x) + record(x, 0) + record(x, 1);
    }

    private static void same(int promise, String what, String got, String want) {
        due(promise, what, got.equals(want), true);
    }

    private static void refuses(ClosureFlow x, int kind, int operand, int refusal) {
        String before = everything(x);
        due(2, "put(" + kind + ", " + operand + ")", x.put(kind, operand), refusal);
        same(2, "put(" + kind + ", " + operand + ") refused changed nothing", everything(x), before);
    }

    // ---- Promise 1 ----

    private static int mostNodes(int cells) {
        ClosureFlow x = new ClosureFlow(cells, 4, 4);
        int nodes = 0;
        while (x.stage() < 0 && nodes < 100) {
            int answer = x.put(IF0, 0);
            if (answer < 0) answer = x.put(ADD, 0);
            if (answer < 0) answer = x.put(LAM, 0);
            if (answer < 0) answer = x.put(NUM, 1);
            nodes++;
        }
        return nodes;
    }

    private static int mostCalls(int calls) {
        ClosureFlow x = new ClosureFlow(48, calls, 64);
        feed(x, OMEGA);
        due(1, "ending with calls " + calls, x.run(0), OUT_OF_CALLS);
        return x.report(0, 3);
    }

    private static int mostClosures(int closures) {
        ClosureFlow x = new ClosureFlow(48, 48, closures);
        feed(x, CLOSURE_LOOP);
        due(1, "ending with closures " + closures, x.run(0), OUT_OF_CLOSURES);
        return x.report(0, 4);
    }

    private static void promise1() {
        int[] tries = {LEAST, -1, 0, 1, 3, 4, 5, 7, 8, 9, 20, 47, 48, 49, 63, 64, 65, 100, GREATEST};
        for (int n : tries) {
            due(1, "most nodes with cells " + n, mostNodes(n), Math.max(8, Math.min(48, n)));
            due(1, "most calls with calls " + n, mostCalls(n), Math.max(4, Math.min(48, n)));
            due(1, "most closures with closures " + n, mostClosures(n), Math.max(4, Math.min(64, n)));
        }
        ClosureFlow x = new ClosureFlow(LEAST, GREATEST, 0);
        due(1, "stage() at first", x.stage(), -1);
        due(1, "look(0, 0) at first", x.look(0, 0), -1);
        for (int engine = 0; engine < 2; engine++) {
            for (int what = 0; what < 5; what++) due(1, "report at first", x.report(engine, what), 0);
        }
        int[] constants = {
            ClosureFlow.VAR, 0, ClosureFlow.NUM, 1, ClosureFlow.LAM, 2, ClosureFlow.APP, 3, ClosureFlow.ADD, 4,
            ClosureFlow.SUB, 5, ClosureFlow.IF0, 6, ClosureFlow.BAD, -1, ClosureFlow.CLOSED, -2,
            ClosureFlow.UNBOUND, -3, ClosureFlow.FULL, -4, ClosureFlow.DEEP, -5, ClosureFlow.MANY, -6,
            ClosureFlow.NOT_READY, -7, ClosureFlow.INTERPRETER, 0, ClosureFlow.COMPILED, 1,
            ClosureFlow.NOT_RUN, 0, ClosureFlow.NUMBER, 1, ClosureFlow.FUNCTION, 2, ClosureFlow.STUCK, 3,
            ClosureFlow.OUT_OF_CALLS, 4, ClosureFlow.OUT_OF_CLOSURES, 5, ClosureFlow.ANY_NUMBER, 65536,
            ClosureFlow.NO_CALL, 0, ClosureFlow.DEAD, 1, ClosureFlow.NEVER, 2, ClosureFlow.KNOWN, 3,
            ClosureFlow.CHOICE, 4, ClosureFlow.DROPPED, 0, ClosureFlow.DIRECT, 1, ClosureFlow.SHARED, 2,
            ClosureFlow.MAX_LAMBDAS, 16, ClosureFlow.MAX_NEST, 5, ClosureFlow.MAX_LEVEL, 5};
        for (int i = 0; i < constants.length; i += 2) due(1, "constant " + i / 2, constants[i], constants[i + 1]);
    }

    // ---- Promise 2 ----

    private static void promise2() {
        badAndClosed();
        unbound();
        fullDeepAndMany();
        levels();
        ClosureFlow x = new ClosureFlow(48, 48, 64);
        int[] kinds = {IF0, LAM, APP, ADD, SUB};
        for (int i = 0; i < kinds.length; i++) {
            due(2, "put of kind " + kinds[i], x.put(kinds[i], GREATEST - i), i);
            due(2, "operand kept by kind " + kinds[i], x.look(i, 1), 0);
        }
        due(2, "put(NUM)", x.put(NUM, LEAST), 5);
        due(2, "operand of NUM", x.look(5, 1), LEAST);
        due(2, "put(VAR)", x.put(VAR, 0), 6);
        feed(x, "1 2 3 4");
        due(2, "stage() when complete", x.stage(), 0);
        int[] parents = {-1, 0, 1, 2, 3, 4, 4, 3, 2, 0, 0};
        for (int i = 0; i < parents.length; i++) due(2, "parent of " + i, x.look(i, 2), parents[i]);
    }

    private static void badAndClosed() {
        for (String term : new String[] {"", "@ L", "5", "L v0"}) {
            for (int kind : WRONG) refuses(fed(term), kind, 0, BAD);
            refuses(fed(term), 7, 0, BAD);
        }
        for (String term : TERMS) {
            for (int kind = VAR; kind <= IF0; kind++) {
                refuses(fed(term), kind, 0, CLOSED);
                refuses(ran(term), kind, -1, CLOSED);
            }
        }
    }

    private static void unbound() {
        for (int operand : WRONG) refuses(fed("L @"), VAR, operand, UNBOUND);
        refuses(fed(""), VAR, 0, UNBOUND);
        refuses(fed("@ L v0"), VAR, 0, UNBOUND);
        refuses(fed("L"), VAR, 1, UNBOUND);
        refuses(fed("L @ L L v2"), VAR, 1, UNBOUND);
        refuses(fed("L L L L L"), VAR, 5, UNBOUND);
        ClosureFlow x = fed("L @ L L v2 L v1");
        due(2, "stage() of a bound term", x.stage(), 0);
        due(2, "binder from the second child", x.look(6, 3), 0);
        // Without a child a VAR is never FULL, also when every cell is taken or promised.
        ClosureFlow small = new ClosureFlow(8, 4, 4);
        feed(small, "L + + + 1");
        refuses(small, VAR, 1, UNBOUND);
        feed(small, "v0 v0 v0");
        due(2, "stage() of a full term", small.stage(), 0);
    }

    private static void full(int cells, String term, int kind, int refusal) {
        ClosureFlow x = new ClosureFlow(cells, 4, 4);
        feed(x, term);
        refuses(x, kind, 0, refusal);
    }

    private static void accepts(int cells, String term, int kind) {
        ClosureFlow x = new ClosureFlow(cells, 4, 4);
        feed(x, term);
        int holes = -x.stage();
        int[] children = {0, 0, 1, 2, 2, 2, 3};
        due(2, "put(" + kind + ") after '" + term + "' accepted", x.put(kind, 0) >= 0, true);
        due(2, "holes of '" + term + "' and " + kind, -x.stage(), holes - 1 + children[kind]);
    }

    private static void fullDeepAndMany() {
        full(8, "+ + +", APP, FULL);
        full(8, "+ + +", IF0, FULL);
        accepts(8, "+ + +", LAM);
        accepts(8, "+ + +", NUM);
        full(8, "+ + + L", LAM, FULL);
        accepts(9, "+ + +", SUB);
        full(9, "+ + +", IF0, FULL);
        accepts(10, "+ + +", IF0);

        // FULL comes before DEEP, and DEEP before MANY.
        for (int kind = APP; kind <= SUB; kind++) {
            full(12, "+ + + + +", kind, FULL);
            full(13, "+ + + + +", kind, DEEP);
        }
        full(13, "+ + + + +", IF0, FULL);
        full(14, "+ + + + +", IF0, DEEP);
        full(8, "+ L L L L L", LAM, FULL);
        full(9, "+ L L L L L", LAM, DEEP);
        accepts(9, "+ L L L L L", NUM);

        String sixteen = "@ @ @ L L L L L 0 L L L L L 0 L L L L L 0 L";
        full(23, sixteen, LAM, FULL);
        full(24, sixteen, LAM, MANY);
        full(48, sixteen, LAM, MANY);
        accepts(48, sixteen, IF0);
        accepts(48, sixteen, VAR);
        full(48, "@ @ @ L 0 L L L L L 0 L L L L L 0 L L L L L", LAM, DEEP);
        accepts(48, "@ @ @ L L L L L 0 L L L L L 0 L L L L L 0", LAM);
    }

    private static void levels() {
        for (int kind = APP; kind <= IF0; kind++) {
            // The body of a LAM is a new start at level 0.
            accepts(48, "+ + + + + L", kind);
            full(48, "+ + + + + L + + + + +", kind, DEEP);
            // Every child of every kind is one level down.
            full(48, "@ 1 + 1 - 1 ? 1 1 ? 1", kind, DEEP);
            accepts(48, "@ 1 + 1 - 1 ? 1 1", kind);
        }
        for (int i = 0; i < 5; i++) {
            String nested = "L L L L L".substring(0, 2 * i);
            accepts(48, nested, LAM);
            accepts(48, nested + " ? 1 1", LAM);
        }
        full(48, "L L L L L ? 1 1", LAM, DEEP);
        accepts(48, "@ L L L L L 1", LAM);
    }

    // ---- Promise 3 ----

    private static void promise3() {
        String fresh = everything(new ClosureFlow(48, 48, 64));
        for (String term : TERMS) {
            for (int state = 1; state < 6; state++) {
                ClosureFlow x = fed(term);
                if (state > 1) x.solve();
                if (state > 2) x.compile();
                if (state > 3) x.run(0);
                if (state > 4) x.run(1);
                x.clear();
                same(3, "clear() after '" + term + "' in state " + state, everything(x), fresh);
                x.clear();
                same(3, "clear() twice", everything(x), fresh);
                feed(x, SUM);
                x.solve();
                x.compile();
                due(3, "run(0) after clear", x.run(0), NUMBER);
                due(3, "run(1) after clear", x.run(1), NUMBER);
                same(3, "all after clear and '" + term + "'", everything(x), everything(ran(SUM)));
            }
        }
        ClosureFlow dead = ran(SUM);
        dead.clear();
        feed(dead, "@ L 7 L @ v0 v0");
        due(3, "live nodes after clear", dead.solve(), 4);
        same(3, "solution after clear", solution(dead), solution(solved("@ L 7 L @ v0 v0")));
        ClosureFlow x = fed("@ L +");
        x.clear();
        same(3, "clear() of an incomplete term", everything(x), fresh);
        ClosureFlow small = new ClosureFlow(8, 5, 6);
        feed(small, "L v0");
        small.clear();
        feed(small, "+ + +");
        due(3, "cells after clear", small.put(ADD, 0), FULL);
        small.clear();
        feed(small, "@ L @ v0 v0 L v0");
        due(3, "calls after clear", small.run(0), FUNCTION);
    }

    // ---- Promise 4 ----

    private static void promise4() {
        for (int node : WRONG) {
            ClosureFlow x = ran(SUM);
            String before = everything(x);
            due(4, "setNumber(" + node + ")", x.setNumber(node, 4), BAD);
            same(4, "setNumber(" + node + ") changed nothing", everything(x), before);
        }
        ClosureFlow x = ran(SUM);
        String before = everything(x);
        for (int node = 0; node < 22; node++) {
            if (x.look(node, 0) != NUM) {
                due(4, "setNumber of node " + node, x.setNumber(node, 4), BAD);
                same(4, "setNumber of node " + node + " changed nothing", everything(x), before);
            }
        }
        String solution = solution(x);
        due(4, "setNumber(6, 4)", x.setNumber(6, 4), 0);
        due(4, "look after setNumber", x.look(6, 1), 4);
        due(4, "stage after setNumber", x.stage(), 2);
        same(4, "solution after setNumber", solution(x), solution);
        for (int engine = 0; engine < 2; engine++) {
            for (int what = 0; what < 5; what++) due(4, "report after setNumber", x.report(engine, what), 0);
            due(4, "called after setNumber", x.called(engine, 0), 0);
        }
        for (int engine = 0; engine < 2; engine++) {
            due(4, "run after setNumber", x.run(engine), NUMBER);
            due(4, "value after setNumber", x.report(engine, 1), 10);
        }
        due(4, "setNumber to the same", x.setNumber(6, 4), 0);
        due(4, "record 0 after setNumber to the same", x.report(0, 0), 0);
        due(4, "record 1 after setNumber to the same", x.report(1, 0), 0);
        due(4, "setNumber(6, LEAST)", x.setNumber(6, LEAST), 0);
        due(4, "look after setNumber(6, LEAST)", x.look(6, 1), LEAST);
        ClosureFlow one = solved("5");
        due(4, "setNumber at stage 1", one.setNumber(0, GREATEST), 0);
        due(4, "stage after it", one.stage(), 1);
        ClosureFlow half = fed("@ 5 +");
        due(4, "setNumber on an incomplete term", half.setNumber(1, -9), 0);
        due(4, "look at it", half.look(1, 1), -9);
        due(4, "stage with it", half.stage(), -2);
        due(4, "setNumber of a node not yet there", half.setNumber(3, 1), BAD);
        half.clear();
        due(4, "setNumber after clear", half.setNumber(1, 1), BAD);
    }

    // ---- Promises 5, 10, 11, 12 ----

    private static void solution(String term, int[] flows, int[] params, String liveMarks) {
        ClosureFlow x = fed(term);
        int count = 0;
        for (int i = 0; i < liveMarks.length(); i++) count += liveMarks.charAt(i) == '1' ? 1 : 0;
        due(5, "solve() of '" + term + "'", x.solve(), count);
        due(5, "stage of '" + term + "'", x.stage(), 1);
        for (int i = 0; i < flows.length; i++) {
            due(10, "live(" + i + ") of '" + term + "'", x.live(i), liveMarks.charAt(i) == '1');
            due(11, "flow(" + i + ") of '" + term + "'", x.flow(i), flows[i]);
        }
        for (int i = 0; i < params.length; i++) due(12, "param(" + i + ") of '" + term + "'", x.param(i), params[i]);
        due(10, "live past the term", x.live(flows.length), false);
        due(11, "flow past the term", x.flow(flows.length), -1);
        due(12, "param past the lambdas", x.param(params.length), -1);
    }

    private static void promise5() {
        solution("5", new int[] {ANY}, new int[] {}, "1");
        solution("L v0", new int[] {1, 0}, new int[] {0}, "10");
        solution("+ 1 L v0", new int[] {0, ANY, 1, 0}, new int[] {0}, "1110");
        solution("- L v0 1", new int[] {0, 1, 0, ANY}, new int[] {0}, "1101");
        solution("- 1 2", new int[] {ANY, ANY, ANY}, new int[] {}, "111");
        solution("? L 0 1 2", new int[] {0, 1, 0, 0, 0}, new int[] {0}, "11000");
        solution("? 5 1 L v0", new int[] {ANY | 1, ANY, ANY, 1, 0}, new int[] {0}, "11110");
        solution("? + 1 L 0 1 2", new int[] {0, 0, ANY, 1, 0, 0, 0}, new int[] {0}, "1111000");
        solution("@ L v0 7", new int[] {ANY, 1, ANY, ANY}, new int[] {ANY}, "1111");
        // No argument ever comes, so the body is not reached.
        solution("@ L 7 @ 1 2", new int[] {0, 1, 0, 0, ANY, ANY}, new int[] {0}, "110111");
        solution("@ L v0 L v0", new int[] {2, 1, 2, 2, 0}, new int[] {2, 0}, "11110");
        // A loop: it answers nothing, but all of it is reached.
        solution(OMEGA, new int[] {0, 1, 0, 2, 2, 2, 0, 2, 2}, new int[] {2, 2}, "111111111");
        solution(CHOOSER, new int[] {ANY, 3, ANY, 1, ANY, ANY, ANY, 2, ANY, ANY, ANY, ANY}, new int[] {ANY, ANY}, "111111111111");
        solution("@ ? 0 L v0 7 3", new int[] {ANY, ANY | 1, ANY, 1, ANY, ANY, ANY}, new int[] {ANY}, "1111111");
        solution(SUM, new int[] {ANY, 1, ANY, 4, 2, 2, ANY, 2, 4, ANY, ANY, ANY, ANY, ANY, ANY, 4, 2, 2, ANY, ANY, ANY},
            new int[] {2, 2, ANY}, "111111111111111111111");
        solution(TWICE, new int[] {ANY, 1, ANY, ANY, 8, 2, ANY, ANY, 8, 4, ANY, 8, ANY, 6, ANY}, new int[] {8, ANY, ANY, 6}, "111111111111111");
        // What the lambdas of one site answer comes together.
        solution("@ ? 0 L 1 L L 2 7", new int[] {ANY | 4, 3, ANY, 1, ANY, 2, 4, 0, ANY}, new int[] {ANY, ANY, 0}, "111111101");
        solution("@ ? 0 L L 2 L 1 7", new int[] {ANY | 2, 5, ANY, 1, 2, 0, 4, ANY, ANY}, new int[] {ANY, 0, ANY}, "111110111");
        // One binding for all calls: what one call gives reaches the answer of the other.
        solution("@ L + @ v0 1 @ v0 L 0 L v0",
            new int[] {ANY, 1, ANY, ANY | 2, 4, ANY, ANY | 2, 4, 2, 0, 4, ANY | 2}, new int[] {4, 0, ANY | 2}, "111111111011");

        for (String term : TERMS) {
            ClosureFlow x = fed(term);
            int count = x.solve();
            String all = solution(x);
            due(5, "solve() again", x.solve(), count);
            same(5, "solution again", solution(x), all);
            x.compile();
            x.run(0);
            x.run(1);
            String before = everything(x);
            due(5, "solve() at stage 2", x.solve(), count);
            same(5, "all after solve() at stage 2", everything(x), before);
            for (int node = 0; node < 48; node++) x.setNumber(node, 1 - x.look(node, 1));
            due(5, "solve() with other ints", x.solve(), count);
            same(5, "solution with other ints", solution(x), all);
        }
        for (String term : new String[] {"", "@ L 7", "L", "? 1 2"}) {
            ClosureFlow x = fed(term);
            String before = everything(x);
            due(5, "solve() of '" + term + "'", x.solve(), NOT_READY);
            same(5, "solve() refused changed nothing", everything(x), before);
        }
        ClosureFlow x = fed("5");
        x.run(0);
        x.solve();
        due(5, "record after solve()", x.report(0, 1), 5);
    }

    private static void promises10to12() {
        for (int wrongNumber : WRONG) {
            ClosureFlow x = ran(SUM);
            due(10, "live(" + wrongNumber + ")", x.live(wrongNumber), false);
            due(11, "flow(" + wrongNumber + ")", x.flow(wrongNumber), -1);
            due(12, "param(" + wrongNumber + ")", x.param(wrongNumber), -1);
            due(13, "site(" + wrongNumber + ")", x.site(wrongNumber), -1);
            due(14, "form(" + wrongNumber + ")", x.form(wrongNumber), -1);
            due(15, "captures(" + wrongNumber + ")", x.captures(wrongNumber), -1);
        }
        for (ClosureFlow x : new ClosureFlow[] {fed(""), fed("@ L v0"), fed(SUM)}) {
            x.run(0);
            for (int i = -1; i < 3; i++) {
                due(10, "live(" + i + ") below stage 1", x.live(i), false);
                due(11, "flow(" + i + ") below stage 1", x.flow(i), -1);
                due(12, "param(" + i + ") below stage 1", x.param(i), -1);
                due(13, "site(" + i + ") below stage 1", x.site(i), -1);
                due(14, "form(" + i + ") below stage 1", x.form(i), -1);
                due(15, "captures(" + i + ") below stage 1", x.captures(i), -1);
            }
        }
        ClosureFlow x = ran(SUM);
        x.clear();
        due(10, "live(0) after clear", x.live(0), false);
        due(11, "flow(0) after clear", x.flow(0), -1);
        due(12, "param(0) after clear", x.param(0), -1);
        feed(x, "5");
        x.solve();
        due(11, "flow(1) of a shorter term", x.flow(1), -1);
        due(10, "live(1) of a shorter term", x.live(1), false);
        due(12, "param(0) without lambdas", x.param(0), -1);
    }

    // ---- Promise 6 ----

    private static void promise6() {
        String[] terms = {"5", "L v0", "@ L 7 L @ v0 v0", CHOOSER, SUM, TWICE, OMEGA, "@ L 7 @ 1 2"};
        int[] kept = {0, 0, 1, 2, 3, 4, 2, 0};
        for (int i = 0; i < terms.length; i++) {
            ClosureFlow x = fed(terms[i]);
            String before = everything(x);
            due(6, "compile() at stage 0", x.compile(), NOT_READY);
            same(6, "compile() refused changed nothing", everything(x), before);
            x.solve();
            x.run(0);
            String rest = term(x) + solution(x) + record(x, 0) + record(x, 1);
            due(6, "compile() of '" + terms[i] + "'", x.compile(), kept[i]);
            due(6, "stage after compile()", x.stage(), 2);
            same(6, "all else after compile()", term(x) + solution(x) + record(x, 0) + record(x, 1), rest);
            x.run(1);
            before = everything(x);
            due(6, "compile() again", x.compile(), kept[i]);
            same(6, "compile() again changed nothing", everything(x), before);
            x.clear();
            due(6, "compile() after clear", x.compile(), NOT_READY);
        }
        due(6, "compile() of nothing", fed("").compile(), NOT_READY);
        due(6, "compile() of an incomplete term", fed("@ 1").compile(), NOT_READY);
    }

    // ---- Promises 7, 16 ----

    /** Runs both engines and checks the whole record of each. */
    private static void ends(ClosureFlow x, String term, int ending, int value, int node, int calls, int closures) {
        feed(x, term);
        x.solve();
        x.compile();
        int[] want = {ending, value, node, calls, closures};
        for (int engine = 0; engine < 2; engine++) {
            due(7, "run(" + engine + ") of '" + term + "'", x.run(engine), ending);
            for (int what = 0; what < 5; what++) {
                due(16, "report(" + engine + ", " + what + ") of '" + term + "'", x.report(engine, what), want[what]);
            }
        }
    }

    private static void ends(String term, int ending, int value, int node, int calls, int closures) {
        ends(fed(""), term, ending, value, node, calls, closures);
    }

    private static void promise7() {
        endsWithValue();
        endsStuck();
        endsAtLimits();
        for (int engine : new int[] {LEAST, -2, -1, 2, 3, 65536, GREATEST}) {
            for (String term : new String[] {"", "@ 1", "5", SUM}) {
                ClosureFlow x = ran(term);
                String before = everything(x);
                due(7, "run(" + engine + ")", x.run(engine), BAD);
                same(7, "run(" + engine + ") changed nothing", everything(x), before);
            }
        }
        for (String term : new String[] {"", "@ 1", "L"}) {
            due(7, "run(0) of '" + term + "'", fed(term).run(0), NOT_READY);
            due(7, "run(1) of '" + term + "'", fed(term).run(1), NOT_READY);
        }
        due(7, "run(0) at stage 0", fed("5").run(0), NUMBER);
        due(7, "run(1) at stage 0", fed("5").run(1), NOT_READY);
        due(7, "run(1) at stage 1", solved("5").run(1), NOT_READY);
        for (String term : TERMS) {
            ClosureFlow x = compiled(term);
            String rest = x.stage() + term(x) + solution(x);
            String none = record(x, 1);
            x.run(0);
            same(7, "record 1 after run(0)", record(x, 1), none);
            String first = record(x, 0);
            x.run(1);
            same(7, "record 0 after run(1)", record(x, 0), first);
            same(7, "record 1 is as record 0", record(x, 1), first);
            x.run(0);
            same(7, "record 0 again", record(x, 0), first);
            same(7, "all else after runs", x.stage() + term(x) + solution(x), rest);
        }
    }

    private static void endsWithValue() {
        ends("5", NUMBER, 5, -1, 0, 0);
        ends("-2147483648", NUMBER, LEAST, -1, 0, 0);
        ends("+ 2 3", NUMBER, 5, -1, 0, 0);
        ends("- 5 7", NUMBER, -2, -1, 0, 0);
        ends("+ 2147483647 1", NUMBER, LEAST, -1, 0, 0);
        ends("- -2147483648 1", NUMBER, GREATEST, -1, 0, 0);
        ends("- 0 -2147483648", NUMBER, LEAST, -1, 0, 0);
        ends("? 0 1 2", NUMBER, 1, -1, 0, 0);
        ends("? 5 1 2", NUMBER, 2, -1, 0, 0);
        ends("? -1 1 2", NUMBER, 2, -1, 0, 0);
        ends("? -2147483648 1 2", NUMBER, 2, -1, 0, 0);
        ends("? + -1 1 1 2", NUMBER, 1, -1, 0, 0);
        ends("? 0 1 @ 1 1", NUMBER, 1, -1, 0, 0);
        ends("? 1 @ 1 1 2", NUMBER, 2, -1, 0, 0);
        ends("+ ? 0 ? 1 2 3 4 ? 1 5 ? 0 60 7", NUMBER, 63, -1, 0, 0);
        ends("L v0", FUNCTION, 0, -1, 0, 1);
        ends("@ L v0 L 5", FUNCTION, 1, -1, 1, 2);
        ends("@ L 5 L v0", NUMBER, 5, -1, 1, 2);
        ends("@ L L v1 5", FUNCTION, 1, -1, 1, 2);
        ends("@ @ L L - v1 v0 10 3", NUMBER, 7, -1, 2, 2);
        ends("@ @ @ @ @ L L L L L - v4 - v3 - v2 - v1 v0 1 20 300 4000 50000", NUMBER, 46281, -1, 5, 5);
        // The bindings are those of the place where the LAM stands, not of the place of the call.
        ends("@ L @ L @ L @ v1 5 100 L + v1 v0 1", NUMBER, 6, -1, 4, 4);
        ends(SUM, NUMBER, 6, -1, 9, 6);
        ends(CHOOSER, NUMBER, 11, -1, 1, 1);
        ends(TWICE, NUMBER, 6, -1, 5, 4);
    }

    private static void endsStuck() {
        ends("@ 1 2", STUCK, 0, 0, 0, 0);
        ends("@ 1 L v0", STUCK, 0, 0, 0, 1);
        ends("@ @ 1 2 @ 3 4", STUCK, 0, 1, 0, 0);
        ends("@ 1 @ 3 4", STUCK, 0, 2, 0, 0);
        ends("@ L 5 @ 3 4", STUCK, 0, 3, 0, 1);
        ends("+ @ 1 2 @ 3 4", STUCK, 0, 1, 0, 0);
        ends("+ L v0 @ 3 4", STUCK, 0, 3, 0, 1);
        ends("+ L v0 1", STUCK, 0, 0, 0, 1);
        ends("+ 1 L v0", STUCK, 0, 0, 0, 1);
        ends("- L v0 L v0", STUCK, 0, 0, 0, 2);
        ends("? L 0 1 2", STUCK, 0, 0, 0, 1);
        ends("? ? 0 L 0 1 1 2", STUCK, 0, 0, 0, 1);
        ends("+ 1 ? L 0 @ 1 1 @ 2 2", STUCK, 0, 2, 0, 1);
        ends("@ ? 1 L v0 7 3", STUCK, 0, 0, 0, 0);
        ends("@ L + v0 v0 L 1", STUCK, 0, 2, 1, 2);
    }

    private static void endsAtLimits() {
        ends(OMEGA, OUT_OF_CALLS, 0, 6, 48, 2);
        ends(CLOSURE_LOOP, OUT_OF_CLOSURES, 0, 10, 43, 64);
        ends(SIXTEEN, FUNCTION, 1, -1, 4, 7);
        // The most values that can wait at once: four in each of 48 frames.
        ends("@ L @ v0 v0 L + 1 + 1 + 1 + 1 @ v0 v0", OUT_OF_CALLS, 0, 14, 48, 2);
        ends(new ClosureFlow(48, 4, 4), OMEGA, OUT_OF_CALLS, 0, 6, 4, 2);
        ends(new ClosureFlow(48, 4, 4), "@ L @ L @ L @ L 9 1 1 1 1", NUMBER, 9, -1, 4, 4);
        ends(new ClosureFlow(48, 4, 4), "@ L @ L @ L @ L @ 7 8 1 1 1 1", STUCK, 0, 8, 4, 4);
        ends(new ClosureFlow(48, 4, 4), "@ L @ L @ L @ L @ L 0 7 1 1 1 1", OUT_OF_CLOSURES, 0, 9, 4, 4);
        ends(new ClosureFlow(48, 4, 5), "@ L @ L @ L @ L @ L 0 7 1 1 1 1", OUT_OF_CALLS, 0, 8, 4, 5);
        ends(new ClosureFlow(48, 5, 5), "@ L @ L @ L @ L @ L 0 7 1 1 1 1", NUMBER, 0, -1, 5, 5);
        ends(new ClosureFlow(48, 48, 4), "@ @ @ @ L 0 L 1 L 2 L 3 L 4", STUCK, 0, 2, 1, 3);
        ends(new ClosureFlow(48, 4, 64), "@ L @ v0 v0 L ? 0 @ v0 v0 @ 1 1", OUT_OF_CALLS, 0, 8, 4, 2);
    }

    // ---- Promise 8 ----

    private static void promise8() {
        ClosureFlow x = fed("");
        int[] kinds = {IF0, APP, LAM, NUM, NUM, ADD, NUM, NUM, NUM};
        int[] stages = {-3, -4, -4, -3, -2, -3, -2, -1, 0};
        due(8, "stage() at first", x.stage(), -1);
        for (int i = 0; i < kinds.length; i++) {
            x.put(kinds[i], 0);
            due(8, "stage() after " + (i + 1) + " nodes", x.stage(), stages[i]);
        }
        x.run(0);
        due(8, "stage() after run(0)", x.stage(), 0);
        x.solve();
        due(8, "stage() solved", x.stage(), 1);
        x.solve();
        due(8, "stage() solved twice", x.stage(), 1);
        x.compile();
        due(8, "stage() compiled", x.stage(), 2);
        x.solve();
        due(8, "stage() solved when compiled", x.stage(), 2);
        x.run(1);
        due(8, "stage() after run(1)", x.stage(), 2);
        x.clear();
        due(8, "stage() after clear", x.stage(), -1);
        feed(x, "5");
        due(8, "stage() of the next term", x.stage(), 0);
    }

    // ---- Promise 9 ----

    private static void promise9() {
        ClosureFlow x = fed("L @ L - v1 v0 ? 7 v0");
        int[][] want = {
            {LAM, 0, -1, 0}, {APP, 0, 0, -1}, {LAM, 0, 1, 1}, {SUB, 0, 2, -1}, {VAR, 1, 3, 0}, {VAR, 0, 3, 1},
            {IF0, 0, 1, -1}, {NUM, 7, 6, -1}, {VAR, 0, 6, 0}};
        for (int i = 0; i < want.length; i++) {
            for (int what = 0; what < 4; what++) {
                due(9, "look(" + i + ", " + what + ")", x.look(i, what), want[i][what]);
            }
            for (int what : new int[] {LEAST, -1, 4, 5, GREATEST}) due(9, "look(" + i + ", " + what + ")", x.look(i, what), -1);
        }
        for (int what = 0; what < 4; what++) {
            for (int node : WRONG) due(9, "look(" + node + ", " + what + ")", x.look(node, what), -1);
            due(9, "look at the next node", x.look(9, what), -1);
        }
        feed(x, "-3");
        due(9, "look at the last node", x.look(9, 1), -3);
        x.setNumber(7, 8);
        due(9, "look after setNumber", x.look(7, 1), 8);
        due(9, "kind after setNumber", x.look(7, 0), NUM);
        String before = term(x);
        x.solve();
        x.compile();
        x.run(0);
        x.run(1);
        same(9, "look after all", term(x), before);
        x.clear();
        due(9, "look after clear", x.look(0, 0), -1);
    }

    // ---- Promises 13, 14, 15 ----

    private static void promise13() {
        ClosureFlow x = solved("@ L 7 L @ v0 v0");
        int[] sites = {KNOWN, NO_CALL, NO_CALL, NO_CALL, DEAD, NO_CALL, NO_CALL};
        for (int i = 0; i < sites.length; i++) due(13, "site(" + i + ")", x.site(i), sites[i]);
        due(13, "site past the term", x.site(7), -1);
        due(13, "only a number", solved("@ 1 2").site(0), NEVER);
        due(13, "nothing as function", solved("@ @ 1 2 3").site(0), NEVER);
        due(13, "nothing as argument", solved("@ L 7 @ 1 2").site(0), NEVER);
        due(13, "two lambdas and nothing as argument", solved("@ ? 0 L 1 L 2 @ 1 2").site(0), NEVER);
        due(13, "a number as argument", solved("@ L 7 2").site(0), KNOWN);
        due(13, "a lambda as argument", solved("@ L 7 L 2").site(0), KNOWN);
        due(13, "a lambda and a number", solved("@ ? 0 L v0 7 3").site(0), CHOICE);
        due(13, "two lambdas", solved(CHOOSER).site(0), CHOICE);
        due(13, "two lambdas and a number", solved("@ ? 0 L v0 ? 0 L 1 7 3").site(0), CHOICE);
        due(13, "a parameter with two lambdas", solved(TWICE).site(12), CHOICE);
        due(13, "in a branch never reached", solved("? L 0 @ L 0 1 @ 1 1").site(3), DEAD);
        due(13, "lambda number 15 alone", solved(SIXTEEN).site(21), KNOWN);
        ClosureFlow last = solved("@ ? 0 L L L L L 1 ? 0 L L L L L 1 ? 0 L L L L L 1 L v0 7");
        due(13, "four lambdas, 15 among them", last.site(0), CHOICE);
        due(14, "form of lambda 15", last.form(15), SHARED);
        due(11, "flow with lambda 15", last.flow(1), 1 | 1 << 5 | 1 << 10 | 1 << 15);
        due(12, "param of lambda 15", last.param(15), ANY);
    }

    private static void forms(String term, int... want) {
        ClosureFlow x = solved(term);
        for (int i = 0; i < want.length; i++) due(14, "form(" + i + ") of '" + term + "'", x.form(i), want[i]);
        due(14, "form past the lambdas of '" + term + "'", x.form(want.length), -1);
    }

    private static void promise14() {
        forms("5");
        forms("L v0", DROPPED);
        forms("@ L 7 L v0", DIRECT, DROPPED);
        forms("@ L 7 @ 1 2", DROPPED);
        forms(CHOOSER, SHARED, SHARED);
        forms("@ ? 0 L v0 7 3", SHARED);
        forms(SUM, DIRECT, DIRECT, DIRECT);
        forms(TWICE, DIRECT, SHARED, SHARED, DIRECT);
        // Both a KNOWN and a CHOICE site: one CHOICE is enough.
        forms("@ L + @ v0 1 @ ? 0 v0 L 6 2 L v0", DIRECT, SHARED, SHARED);
        // A site that never calls shares nothing, even with two lambdas before it.
        forms("@ L + @ v0 1 @ ? 0 v0 L 6 @ 1 2 L v0", DIRECT, DROPPED, DIRECT);
    }

    private static void capturesOf(String term, int... want) {
        ClosureFlow x = solved(term);
        for (int i = 0; i < want.length; i++) due(15, "captures(" + i + ") of '" + term + "'", x.captures(i), want[i]);
        due(15, "captures past the lambdas of '" + term + "'", x.captures(want.length), -1);
    }

    private static void promise15() {
        capturesOf("5");
        capturesOf("L v0", 0);
        capturesOf("L L v1", 0, 0);
        capturesOf("@ L L v1 5", 0, 0);
        capturesOf("@ @ L L v1 5 6", 0, 1);
        capturesOf("@ @ L L v0 5 6", 0, 0);
        capturesOf("@ @ @ L L L + v2 v0 1 2 3", 0, 1, 1);
        capturesOf("@ @ @ L L L + v2 v1 1 2 3", 0, 1, 3);
        capturesOf("@ @ @ L L L + v0 v1 1 2 3", 0, 0, 2);
        capturesOf("@ @ L L ? v0 v1 L v2 5 6", 0, 1, 0);
        capturesOf("@ @ L L ? L 0 v1 v1 5 6", 0, 0, 0);
        capturesOf("@ @ @ @ @ L L L L L - v4 - v3 - v2 - v1 v0 1 1 1 1 1", 0, 1, 3, 7, 15);
        capturesOf(SUM, 0, 0, 2);
        // A lambda beside is not a lambda around.
        capturesOf("@ L @ v0 1 L v0", 0, 0);
    }

    // ---- Promise 16: see also the ends of promise 7 ----

    private static void promise16() {
        for (String term : TERMS) {
            ClosureFlow x = compiled(term);
            for (int engine = 0; engine < 2; engine++) {
                for (int what = -1; what < 6; what++) due(16, "report of no run", x.report(engine, what), 0);
            }
            x.run(0);
            for (int what = 0; what < 5; what++) due(16, "report(1) after run(0)", x.report(1, what), 0);
            x.run(1);
            String before = everything(x);
            for (int engine = 0; engine < 2; engine++) {
                for (int what : new int[] {LEAST, -5, -1, 5, 6, 10, GREATEST}) {
                    due(16, "report(" + engine + ", " + what + ")", x.report(engine, what), 0);
                }
            }
            for (int engine : new int[] {LEAST, -1, 2, 3, GREATEST}) {
                for (int what = 0; what < 5; what++) due(16, "report(" + engine + ", " + what + ")", x.report(engine, what), 0);
            }
            same(16, "report changed nothing", everything(x), before);
        }
    }

    // ---- Promise 17 ----

    private static void called(ClosureFlow x, String term, int... want) {
        feed(x, term);
        x.solve();
        x.compile();
        for (int engine = 0; engine < 2; engine++) {
            for (int i = 0; i < want.length; i++) {
                due(17, "called(" + engine + ", " + i + ") before a run of '" + term + "'", x.called(engine, i), want[i] < 0 ? -1 : 0);
            }
        }
        for (int engine = 0; engine < 2; engine++) {
            x.run(engine);
            for (int i = 0; i < want.length; i++) {
                due(17, "called(" + engine + ", " + i + ") of '" + term + "'", x.called(engine, i), want[i]);
            }
            due(17, "called past the term", x.called(engine, want.length), -1);
            for (int node : WRONG) due(17, "called(" + engine + ", " + node + ")", x.called(engine, node), -1);
        }
        for (int engine : new int[] {LEAST, -1, 2, GREATEST}) due(17, "called(" + engine + ", 0)", x.called(engine, 0), -1);
    }

    private static void promise17() {
        called(fed(""), CHOOSER, 1, -1, -1, -1, -1, -1, -1, -1, -1, -1, -1, -1);
        called(fed(""), TWICE, 1, -1, -1, 8, -1, -1, -1, 8, -1, -1, -1, -1, 6, -1, -1);
        called(fed(""), "+ @ L v0 1 @ 2 3", -1, 1, -1, -1, -1, 0, -1, -1);
        called(fed(""), OMEGA, 1, -1, 2, -1, -1, -1, 2, -1, -1);
        called(new ClosureFlow(48, 4, 5), "@ L @ L @ L @ L @ L 0 7 1 1 1 1",
            1, -1, 2, -1, 4, -1, 8, -1, 0, -1, -1, -1, -1, -1, -1, -1);
        due(17, "called with lambda 15", ran(SIXTEEN).called(0, 21), 1 << 15);
        due(17, "called with lambda 15 by the compiled engine", ran(SIXTEEN).called(1, 21), 1 << 15);
        ClosureFlow x = ran(CHOOSER);
        x.setNumber(2, 1);
        due(17, "called(0, 0) after setNumber", x.called(0, 0), 0);
        x.run(1);
        due(17, "called(1, 0) of the other branch alone", x.called(1, 0), 2);
        due(17, "called(0, 0) of the engine not run", x.called(0, 0), 0);
        due(17, "called of an incomplete term", fed("@ L").called(0, 0), 0);
        due(17, "called of no node yet", fed("@ L").called(0, 2), -1);
        x.clear();
        due(17, "called after clear", x.called(1, 0), -1);
        feed(x, "@ 1 2");
        due(17, "called of the next term", x.called(1, 0), 0);
    }

    public static void main(String[] args) {
        promise1();
        promise2();
        promise3();
        promise4();
        promise5();
        promise6();
        promise7();
        promise8();
        promise9();
        promises10to12();
        promise13();
        promise14();
        promise15();
        promise16();
        promise17();
        System.out.println(wrong == 0 ? "all " + checks + " answers are as due" : wrong + " answers are not as due");
        if (wrong != 0) System.exit(1);
    }
}
