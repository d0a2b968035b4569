import java.util.ArrayList;
import java.util.Arrays;
import java.util.HashMap;
import java.util.HashSet;
import java.util.List;
import java.util.Map;
import java.util.Scanner;
import java.util.Set;
import java.util.TreeSet;

/**
 * Long made-up runs of calls, each answer compared with a second, recursive telling of the document.
 * The numbers come from a fixed seed, so that every run of this test is the same.
 */
public final class ReferenceTests {
    private static final int VAR = 0, NUM = 1, LAM = 2, APP = 3, ADD = 4, SUB = 5, IF0 = 6;
    private static final int[] CHILDREN = {0, 0, 1, 2, 2, 2, 3};
    private static final int ANY = 65536;
    private static final int EPISODES = 20000;

    // ---- The reference ----

    private static final class Node {
        final int kind;
        final int number;
        int operand;
        Node parent;
        Node binder;
        int lambda = -1;
        final List<Node> kids = new ArrayList<>();

        Node(int kind, int number) {
            this.kind = kind;
            this.number = number;
        }

        boolean lacksChild() {
            return kids.size() < CHILDREN[kind];
        }
    }

    private static final class Closure {
        final Node lam;
        final Map<Node, Object> bindings;

        Closure(Node lam, Map<Node, Object> bindings) {
            this.lam = lam;
            this.bindings = bindings;
        }
    }

    private static final class Ended extends RuntimeException {
        final int how;
        final int node;

        Ended(int how, int node) {
            this.how = how;
            this.node = node;
        }
    }

    private static final class Evaluation {
        final int callLimit;
        final int closureLimit;
        int how, value, node = -1, calls, closures;
        final Map<Node, Integer> called = new HashMap<>();

        Evaluation(Reference term) {
            callLimit = term.callLimit;
            closureLimit = term.closureLimit;
            try {
                Object result = value(term.nodes.get(0), new HashMap<>());
                how = result instanceof Closure ? 2 : 1;
                value = result instanceof Closure ? ((Closure) result).lam.lambda : (Integer) result;
            } catch (Ended end) {
                how = end.how;
                node = end.node;
            }
        }

        Object value(Node n, Map<Node, Object> bindings) {
            switch (n.kind) {
                case NUM: return n.operand;
                case VAR: return bindings.get(n.binder);
                case LAM:
                    if (closures == closureLimit) throw new Ended(5, n.number);
                    closures++;
                    return new Closure(n, bindings);
                case IF0: {
                    Object test = value(n.kids.get(0), bindings);
                    if (test instanceof Closure) throw new Ended(3, n.number);
                    return value(n.kids.get((Integer) test == 0 ? 1 : 2), bindings);
                }
                case APP: {
                    Object function = value(n.kids.get(0), bindings);
                    Object argument = value(n.kids.get(1), bindings);
                    if (!(function instanceof Closure)) throw new Ended(3, n.number);
                    if (calls == callLimit) throw new Ended(4, n.number);
                    calls++;
                    Closure closure = (Closure) function;
                    called.merge(n, 1 << closure.lam.lambda, (a, b) -> a | b);
                    Map<Node, Object> inner = new HashMap<>(closure.bindings);
                    inner.put(closure.lam, argument);
                    return value(closure.lam.kids.get(0), inner);
                }
                default: {
                    Object left = value(n.kids.get(0), bindings);
                    Object right = value(n.kids.get(1), bindings);
                    if (left instanceof Closure || right instanceof Closure) throw new Ended(3, n.number);
                    return n.kind == ADD ? (Integer) left + (Integer) right : (Integer) left - (Integer) right;
                }
            }
        }
    }

    private static final class Reference {
        final int cells, callLimit, closureLimit;
        final List<Node> nodes = new ArrayList<>();
        final List<Node> lams = new ArrayList<>();
        final Evaluation[] records = new Evaluation[2];
        final Set<Node> live = new HashSet<>();
        final Map<Node, Set<Integer>> s = new HashMap<>();
        final List<Set<Integer>> p = new ArrayList<>();
        int stage;

        Reference(int cells, int calls, int closures) {
            this.cells = Math.max(8, Math.min(48, cells));
            callLimit = Math.max(4, Math.min(48, calls));
            closureLimit = Math.max(4, Math.min(64, closures));
        }

        int holes() {
            int holes = nodes.isEmpty() ? 1 : 0;
            for (Node n : nodes) holes += CHILDREN[n.kind] - n.kids.size();
            return holes;
        }

        Node holeParent() {
            Node found = null;
            for (Node n : nodes) if (n.lacksChild()) found = n;
            return found;
        }

        static List<Node> enclosing(Node parent) {
            List<Node> all = new ArrayList<>();
            for (Node n = parent; n != null; n = n.parent) if (n.kind == LAM) all.add(n);
            return all;
        }

        static int level(Node parent) {
            return parent == null || parent.kind == LAM ? 0 : level(parent.parent) + 1;
        }

        int put(int kind, int operand) {
            if (kind < 0 || kind > 6) return -1;
            if (holes() == 0) return -2;
            Node parent = holeParent();
            List<Node> around = enclosing(parent);
            if (kind == VAR && (operand < 0 || operand >= around.size())) return -3;
            if (nodes.size() + holes() + CHILDREN[kind] > cells) return -4;
            if (kind >= APP && level(parent) == 5) return -5;
            if (kind == LAM && around.size() == 5) return -5;
            if (kind == LAM && lams.size() == 16) return -6;
            Node n = new Node(kind, nodes.size());
            n.parent = parent;
            if (parent != null) parent.kids.add(n);
            if (kind == VAR || kind == NUM) n.operand = operand;
            if (kind == VAR) n.binder = around.get(operand);
            if (kind == LAM) {
                n.lambda = lams.size();
                lams.add(n);
            }
            nodes.add(n);
            return n.number;
        }

        void clear() {
            nodes.clear();
            lams.clear();
            records[0] = null;
            records[1] = null;
            stage = 0;
        }

        Node node(int number) {
            return number >= 0 && number < nodes.size() ? nodes.get(number) : null;
        }

        int setNumber(int number, int value) {
            Node n = node(number);
            if (n == null || n.kind != NUM) return -1;
            n.operand = value;
            records[0] = null;
            records[1] = null;
            return 0;
        }

        int solve() {
            if (holes() > 0) return -7;
            live.clear();
            s.clear();
            p.clear();
            for (Node n : nodes) s.put(n, new TreeSet<>());
            for (int i = 0; i < lams.size(); i++) p.add(new TreeSet<>());
            live.add(nodes.get(0));
            boolean more = true;
            while (more) {
                more = false;
                // From the last node down, unlike the class, as the order must not matter.
                for (int i = nodes.size() - 1; i >= 0; i--) {
                    if (live.contains(nodes.get(i))) more |= rules(nodes.get(i));
                }
            }
            stage = Math.max(stage, 1);
            return live.size();
        }

        private boolean rules(Node n) {
            boolean more = false;
            Set<Integer> own = s.get(n);
            if (n.kind >= APP && n.kind <= SUB) more |= live.add(n.kids.get(0)) | live.add(n.kids.get(1));
            if (n.kind == IF0) more |= live.add(n.kids.get(0));
            if (n.kind == NUM) more |= own.add(ANY);
            if (n.kind == LAM) more |= own.add(n.lambda);
            if (n.kind == VAR) more |= own.addAll(p.get(n.binder.lambda));
            if (n.kind == ADD || n.kind == SUB) {
                if (s.get(n.kids.get(0)).contains(ANY) && s.get(n.kids.get(1)).contains(ANY)) more |= own.add(ANY);
            }
            if (n.kind == IF0 && s.get(n.kids.get(0)).contains(ANY)) {
                for (Node branch : n.kids.subList(1, 3)) more |= live.add(branch) | own.addAll(s.get(branch));
            }
            if (n.kind == APP && !s.get(n.kids.get(1)).isEmpty()) {
                for (int l : new ArrayList<>(s.get(n.kids.get(0)))) {
                    if (l == ANY) continue;
                    Node body = lams.get(l).kids.get(0);
                    more |= live.add(body);
                    more |= p.get(l).addAll(s.get(n.kids.get(1)));
                    more |= own.addAll(s.get(body));
                }
            }
            return more;
        }

        int compile() {
            if (stage < 1) return -7;
            stage = 2;
            int kept = 0;
            for (int l = 0; l < lams.size(); l++) kept += form(l) != 0 ? 1 : 0;
            return kept;
        }

        int run(int engine) {
            if (engine != 0 && engine != 1) return -1;
            if (holes() > 0 || engine == 1 && stage < 2) return -7;
            records[engine] = new Evaluation(this);
            return records[engine].how;
        }

        int stage() {
            return holes() > 0 ? -holes() : stage;
        }

        int look(int number, int what) {
            Node n = node(number);
            if (n == null) return -1;
            if (what == 0) return n.kind;
            if (what == 1) return n.operand;
            if (what == 2) return n.parent == null ? -1 : n.parent.number;
            if (what == 3) return n.binder == null ? n.lambda : n.binder.lambda;
            return -1;
        }

        boolean live(int number) {
            return stage >= 1 && node(number) != null && live.contains(node(number));
        }

        private static int mask(Set<Integer> set) {
            int mask = 0;
            for (int element : set) mask |= element == ANY ? ANY : 1 << element;
            return mask;
        }

        int flow(int number) {
            return stage < 1 || node(number) == null ? -1 : mask(s.get(node(number)));
        }

        private boolean noLambda(int l) {
            return stage < 1 || l < 0 || l >= lams.size();
        }

        int param(int l) {
            return noLambda(l) ? -1 : mask(p.get(l));
        }

        int site(int number) {
            Node n = node(number);
            if (stage < 1 || n == null) return -1;
            if (n.kind != APP) return 0;
            if (!live.contains(n)) return 1;
            Set<Integer> lambdas = new TreeSet<>(s.get(n.kids.get(0)));
            boolean withNumber = lambdas.remove(ANY);
            if (lambdas.isEmpty() || s.get(n.kids.get(1)).isEmpty()) return 2;
            return lambdas.size() == 1 && !withNumber ? 3 : 4;
        }

        int form(int l) {
            if (noLambda(l)) return -1;
            if (!live.contains(lams.get(l).kids.get(0))) return 0;
            for (Node n : nodes) {
                if (site(n.number) == 4 && s.get(n.kids.get(0)).contains(l)) return 2;
            }
            return 1;
        }

        int captures(int l) {
            if (noLambda(l)) return -1;
            List<Node> around = enclosing(lams.get(l).parent);
            int mask = 0;
            for (Node n : nodes) {
                if (n.kind == VAR && live.contains(n) && enclosing(n.parent).contains(lams.get(l)) && around.contains(n.binder)) {
                    mask |= 1 << n.binder.lambda;
                }
            }
            return mask;
        }

        int report(int engine, int what) {
            if (engine < 0 || engine > 1 || what < 0 || what > 4 || records[engine] == null) return 0;
            Evaluation e = records[engine];
            return new int[] {e.how, e.value, e.node, e.calls, e.closures}[what];
        }

        int called(int engine, int number) {
            Node n = node(number);
            if (engine < 0 || engine > 1 || n == null || n.kind != APP) return -1;
            return records[engine] == null ? 0 : records[engine].called.getOrDefault(n, 0);
        }
    }

    // ---- The runs ----

    private static long seed = 20261115;
    private static int wrong = 0;
    private static long answers = 0;
    private static int episode = 0;
    private static StringBuilder history = new StringBuilder();
    // How often each ending, site, form and refusal was met: a test that meets none of a kind tells nothing of it.
    private static final int[] endings = new int[6], sites = new int[5], forms = new int[3], refusals = new int[7];

    private static int pick(int bound) {
        seed = seed * 6364136223846793005L + 1442695040888963407L;
        return (int) ((seed >>> 33) % bound);
    }

    private static void due(String call, long got, long want) {
        answers++;
        if (got != want && wrong++ < 20) {
            System.out.println("episode " + episode + ":" + history + " " + call + " answered " + got + ", due is " + want);
        }
    }

    private static int oddInt() {
        int[] odd = {Integer.MIN_VALUE, Integer.MAX_VALUE, -1, 0, 1, 2, 3, 7, 8, 16, 48, 64, -2, 65536};
        return odd[pick(odd.length)];
    }

    private static final String[] STARTS = {
        "", "", "", "@", "@ L", "@ L @ v0 v0 L", "@ L @ v0 v0 L @ v0 v0", "@ L @ @ v0 v0 3 L L ? v0 0", "@ @ L L",
        "@ L @ v0 v0 L ?", "@ L @ @ v0 v0", "@ L + @ v0", "@ ? 0 L", "@ @ @ L L L", "@ L @ v0 v0 L @ @ @ L L L @ v3 v3",
        "@ L @ v0 v0 L @ @ L L", "@ @ @ L L L L L", "@ L @ @ v0 v0 30 L L ? v0 0 + v0 @ @ v1 v1 - v0 1",
        "@ L @ @ v0 v0 15 L L ? v0 0 - v0 @ @ v1 v1 - v0"};

    private static void put(ClosureFlow x, Reference r, int kind, int operand) {
        String call = "put(" + kind + ", " + operand + ")";
        int want = r.put(kind, operand);
        if (want < 0) refusals[-want]++;
        due(call, x.put(kind, operand), want);
        history.append(' ').append(call);
    }

    private static void start(ClosureFlow x, Reference r) {
        for (Scanner words = new Scanner(STARTS[pick(STARTS.length)]); words.hasNext(); ) {
            String word = words.next();
            int kind = "L@+-?".indexOf(word) + LAM;
            if (kind >= LAM) put(x, r, kind, pick(5));
            else if (word.startsWith("v")) put(x, r, VAR, Integer.parseInt(word.substring(1)));
            else put(x, r, NUM, Integer.parseInt(word));
        }
    }

    private static void fill(ClosureFlow x, Reference r) {
        int[] weights = {4 + pick(12), 1 + pick(6), 1 + pick(12), 1 + pick(12), pick(4), pick(4), pick(4)};
        int sum = 0;
        for (int weight : weights) sum += weight;
        int leave = pick(10) == 0 ? pick(60) : 1000;
        for (int i = 0; i < leave && r.holes() > 0; i++) {
            int kind = 0;
            for (int at = pick(sum); at >= weights[kind]; kind++) at -= weights[kind];
            int operand = kind == VAR ? pick(4) : pick(4) == 0 ? oddInt() : pick(3) - 1;
            if (pick(60) == 0) kind = oddInt();
            if (pick(60) == 0) operand = oddInt();
            put(x, r, kind, operand);
            if (pick(40) == 0) compareNodes(x, r, pick(50) - 1);
        }
    }

    private static void compareNodes(ClosureFlow x, Reference r, int node) {
        for (int what = -1; what <= 4; what++) due("look(" + node + ", " + what + ")", x.look(node, what), r.look(node, what));
        due("live(" + node + ")", x.live(node) ? 1 : 0, r.live(node) ? 1 : 0);
        due("flow(" + node + ")", x.flow(node), r.flow(node));
        int site = r.site(node);
        if (site >= 0) sites[site]++;
        due("site(" + node + ")", x.site(node), site);
        for (int engine = -1; engine <= 2; engine++) {
            due("called(" + engine + ", " + node + ")", x.called(engine, node), r.called(engine, node));
        }
    }

    private static void compareAll(ClosureFlow x, Reference r) {
        due("stage()", x.stage(), r.stage());
        for (int node = -1; node <= 48; node++) compareNodes(x, r, node);
        for (int l = -1; l <= 16; l++) {
            int form = r.form(l);
            if (form >= 0) forms[form]++;
            due("param(" + l + ")", x.param(l), r.param(l));
            due("form(" + l + ")", x.form(l), form);
            due("captures(" + l + ")", x.captures(l), r.captures(l));
        }
        compareRecords(x, r);
    }

    private static void compareRecords(ClosureFlow x, Reference r) {
        for (int engine = -1; engine <= 2; engine++) {
            for (int what = -1; what <= 5; what++) {
                due("report(" + engine + ", " + what + ")", x.report(engine, what), r.report(engine, what));
            }
        }
    }

    private static void act(ClosureFlow x, Reference r) {
        int choice = pick(12);
        String call;
        if (choice < 2) {
            call = "solve()";
            due(call, x.solve(), r.solve());
        } else if (choice < 4) {
            call = "compile()";
            due(call, x.compile(), r.compile());
        } else if (choice < 8) {
            int engine = pick(20) == 0 ? oddInt() : pick(2);
            call = "run(" + engine + ")";
            int want = r.run(engine);
            if (want > 0) endings[want]++;
            due(call, x.run(engine), want);
        } else if (choice < 11) {
            int node = pick(10) == 0 ? oddInt() : pick(48);
            int value = pick(2) == 0 ? oddInt() : pick(3) - 1;
            call = "setNumber(" + node + ", " + value + ")";
            due(call, x.setNumber(node, value), r.setNumber(node, value));
        } else if (pick(8) == 0) {
            call = "clear()";
            x.clear();
            r.clear();
        } else {
            int kind = pick(7);
            put(x, r, kind, pick(3));
            return;
        }
        history.append(' ').append(call);
        compareRecords(x, r);
    }

    private static int limit(int greatest) {
        return pick(3) == 0 ? oddInt() : pick(3) == 0 ? pick(greatest + 4) : greatest;
    }

    private static void playEpisode() {
        int cells = limit(48), calls = limit(48), closures = limit(64);
        history = new StringBuilder(" new(" + cells + ", " + calls + ", " + closures + ")");
        ClosureFlow x = new ClosureFlow(cells, calls, closures);
        Reference r = new Reference(cells, calls, closures);
        start(x, r);
        fill(x, r);
        int acts = pick(25);
        for (int i = 0; i < acts; i++) act(x, r);
        compareAll(x, r);
        for (int round = 0; round < 2; round++) {
            due("solve()", x.solve(), r.solve());
            due("compile()", x.compile(), r.compile());
            due("run(0)", x.run(0), r.run(0));
            due("run(1)", x.run(1), r.run(1));
            history.append(" solve() compile() run(0) run(1)");
            compareAll(x, r);
            x.clear();
            r.clear();
            history.append(" clear()");
            start(x, r);
            fill(x, r);
        }
    }

    private static void met(String what, int[] counts, int from) {
        for (int i = from; i < counts.length; i++) {
            if (counts[i] == 0) {
                wrong++;
                System.out.println("no " + what + " " + i + " was met");
            }
        }
    }

    public static void main(String[] args) {
        for (episode = 0; episode < EPISODES && wrong < 20; episode++) playEpisode();
        met("ending", endings, 1);
        met("site", sites, 0);
        met("form", forms, 0);
        met("refusal of put: minus", refusals, 1);
        System.out.println("endings " + Arrays.toString(endings) + " sites " + Arrays.toString(sites)
            + " forms " + Arrays.toString(forms) + " refusals " + Arrays.toString(refusals));
        System.out.println(wrong == 0 ? "all " + answers + " answers are as due" : wrong + " answers are not as due");
        if (wrong != 0) System.exit(1);
    }
}
