import java.util.Random;

/** Promises 5 to 41: runs of calls, right ones and wrong ones, each answered by NaiveCut, too. */
public final class ModelRunsTest {
    private static final int RUNS = 1500;
    // A step makes some 30 calls and a load some 25: an object answers for 512 calls.
    private static final int STEPS = 12;
    private static final int LOADS = 3;
    private static final String[] FORMULAS = {
        null, "weight", "weight*low", "low+high", "weight - low*high", "weight*weight/(low-high)",
        "(low + 3) * (high + 2) / (weight - 50)", "9999-99*weight",
        "weight/10+1", "((weight*high-low)/((2)))+(((low)))", "3", "100-weight", "9999*9999*weight-9999*9999+weight",
    };

    // 32 and 64 more than an index look like it to a shift.
    private static final int[] FAR = {
        Integer.MIN_VALUE, Integer.MIN_VALUE + 1, -256, -64, -32, 31, 32, 33, 36, 64, 68, 256, Integer.MAX_VALUE,
    };

    private final Random random;
    private final MultiwayCut cut = new MultiwayCut();
    private final NaiveCut model = new NaiveCut();
    private final String run;
    private int loads = 0;

    private ModelRunsTest(int seed) {
        random = new Random(seed);
        run = "run " + seed + " ";
    }

    public static void main(String[] args) {
        for (int seed = 0; seed < RUNS; seed++) {
            ModelRunsTest test = new ModelRunsTest(seed);
            test.load();
            for (int step = 0; step < STEPS; step++) {
                test.change();
                test.compare();
            }
            test.undoAll();
        }
        Check.end();
    }

    private void same(String what, double got, double want) {
        Check.same(run + what, got, want);
    }

    // ---- A random setup ----

    private void load() {
        loads++;
        NaiveCut next = new NaiveCut();
        StringBuilder text = new StringBuilder();
        next.n = 2 + random.nextInt(8);
        next.loads = new int[next.n];
        next.labels = new int[next.n];
        next.terminal = new boolean[next.n];
        text.append("graph ").append(next.n).append(';');
        int weights = random.nextBoolean() ? 3 : 99;
        for (int k = random.nextInt(21); k > 0; k--) {
            addRandomEdge(next, text, 1 + random.nextInt(weights));
        }
        for (int k = random.nextInt(6); k > 0; k--) {
            int v = random.nextInt(next.n);
            if (!next.terminal[v]) {
                next.terminal[v] = true;
                text.append("terminal ").append(v).append(';');
            }
        }
        for (int v = 0; v < next.n; v++) {
            if (random.nextBoolean()) {
                next.loads[v] = random.nextInt(random.nextBoolean() ? 4 : 100);
                text.append(" load ").append(v).append(" ").append(next.loads[v]).append(" ;");
            }
        }
        next.formula = FORMULAS[random.nextInt(FORMULAS.length)];
        if (next.formula != null) {
            text.append("cost ").append(next.formula).append(';');
        }
        model.load(next);
        same("load " + text, Check.load(cut, text.toString()), next.edges.size());
    }

    private void addRandomEdge(NaiveCut to, StringBuilder text, int weight) {
        int a = random.nextInt(to.n);
        int b = random.nextInt(to.n);
        if (a != b && !to.hasEdge(a, b)) {
            to.edges.add(new NaiveCut.Edge(a, b, weight));
            text.append("edge ").append(a).append(' ').append(b).append(' ').append(weight).append(';');
        }
    }

    // ---- A random change ----

    private boolean vertex(int v) {
        return v >= 0 && v < model.n;
    }

    private boolean terminal(int v) {
        return vertex(v) && model.terminal[v];
    }

    /** Mostly one of those below the bound, sometimes one that is just outside, and seldom one far away. */
    private int near(int bound) {
        if (random.nextInt(50) == 0) {
            return FAR[random.nextInt(FAR.length)];
        }
        return random.nextInt(12) == 0 ? random.nextInt(bound + 2) - 1 : random.nextInt(Math.max(1, bound));
    }

    private void change() {
        switch (random.nextInt(16)) {
            case 0:
                if (loads < LOADS) {
                    load();
                }
                break;
            case 1: case 2: case 3: setLabel(near(model.n), near(model.n + 1) - 1); break;
            case 4: use(); break;
            case 5: improve(near(23)); break;
            case 6: case 7: setWeight(near(model.edges.size()), near(101)); break;
            case 8: case 9: addEdge(near(model.n), near(model.n), near(101)); break;
            case 10: removeEdge(near(model.edges.size())); break;
            case 11: case 12: case 13: setTerminal(near(model.n), random.nextInt(3) != 0); break;
            default: same("undo", cut.undo(), model.undo()); break;
        }
    }

    private void setLabel(int v, int t) {
        String what = run + "setLabel " + v + " " + t;
        if (!vertex(v)) {
            Check.noIndex(what, () -> cut.setLabel(v, t));
        } else if (t != -1 && !terminal(t)) {
            Check.noArgument(what, () -> cut.setLabel(v, t));
        } else if (terminal(v)) {
            Check.noState(what, () -> cut.setLabel(v, t));
        } else {
            same(what, cut.setLabel(v, t), model.setLabel(v, t));
        }
    }

    private void use() {
        int kind = random.nextInt(3);
        if (kind == 0) {
            same("useNearest", cut.useNearest(), model.use(model.nearestLabels()));
        } else if (kind == 1) {
            same("useExact", cut.useExact(), model.use(model.exact()));
        } else if (model.terminals() == 0) {
            Check.noState(run + "useUnion", () -> cut.useUnion());
        } else {
            same("useUnion", cut.useUnion(), model.use(model.unionLabels()));
        }
    }

    private void improve(int most) {
        if (most < 1 || most > 20) {
            Check.noArgument(run + "improve", () -> cut.improve(most));
        } else {
            same("improve", cut.improve(most), model.improve(most));
        }
    }

    private void setWeight(int e, int weight) {
        if (e < 0 || e >= model.edges.size()) {
            Check.noIndex(run + "setWeight", () -> cut.setWeight(e, weight));
        } else if (weight < 1 || weight > 99) {
            Check.noArgument(run + "setWeight", () -> cut.setWeight(e, weight));
        } else {
            same("setWeight", cut.setWeight(e, weight), model.setWeight(e, weight));
        }
    }

    private void addEdge(int a, int b, int weight) {
        if (!vertex(a) || !vertex(b)) {
            Check.noIndex(run + "addEdge", () -> cut.addEdge(a, b, weight));
        } else if (a == b || weight < 1 || weight > 99) {
            Check.noArgument(run + "addEdge", () -> cut.addEdge(a, b, weight));
        } else if (model.hasEdge(a, b) || model.edges.size() == 20) {
            Check.noState(run + "addEdge", () -> cut.addEdge(a, b, weight));
        } else {
            same("addEdge", cut.addEdge(a, b, weight), model.addEdge(a, b, weight));
        }
    }

    private void removeEdge(int e) {
        if (e < 0 || e >= model.edges.size()) {
            Check.noIndex(run + "removeEdge", () -> cut.removeEdge(e));
        } else {
            same("removeEdge", cut.removeEdge(e), model.removeEdge(e));
        }
    }

    private void setTerminal(int v, boolean is) {
        if (!vertex(v)) {
            Check.noIndex(run + "setTerminal", () -> cut.setTerminal(v, is));
        } else if (is && !terminal(v) && model.terminalCount() == 5) {
            Check.noState(run + "setTerminal", () -> cut.setTerminal(v, is));
        } else {
            same("setTerminal", cut.setTerminal(v, is), model.setTerminal(v, is));
        }
    }

    private void undoAll() {
        for (int k = 0; k < 10; k++) {
            same("undo", cut.undo(), model.undo());
            Check.sameLong(run + "checksum after undo", cut.checksum(), model.checksum());
        }
    }

    // ---- All answers ----

    private void compare() {
        Check.sameLong(run + "checksum", cut.checksum(), model.checksum());
        same("edgeCount", cut.edgeCount(), model.edges.size());
        same("cost", cut.cost(), model.cost());
        same("cut", cut.cut(), model.cut());
        same("ratio", cut.ratio(), model.ratio());
        same("meanCost", cut.meanCost(), model.meanCost());
        same("lowerBound", cut.lowerBound(), model.lowerBound());
        same("exactCost", cut.exactCost(), model.exactCost());
        int[] move = model.bestMove();
        for (int what = 0; what < 3; what++) {
            same("bestMove " + what, cut.bestMove(what), move[what]);
        }
        if (model.n > 0) {
            compareSets();
            compareEdges();
        }
        compareVertices();
    }

    private void compareSets() {
        int set = random.nextInt(1 << model.n);
        same("cutCost " + set, cut.cutCost(set), model.cutCost(set));
        int edges = random.nextInt(1 << model.edges.size()) | random.nextInt(1 << model.edges.size());
        same("separates " + edges, cut.separates(edges) ? 1 : 0, model.separates(edges) ? 1 : 0);
        if (model.terminals() == 0) {
            Check.noState(run + "dearest", () -> cut.dearest());
            return;
        }
        same("dearest", cut.dearest(), model.dearest());
        same("unionCut", cut.unionCut(), model.unionCut());
        same("unionCost", cut.unionCost(), model.unionCost());
    }

    private void compareEdges() {
        for (int k = Math.min(2, model.edges.size()); k > 0; k--) {
            int e = random.nextInt(model.edges.size());
            int cost = model.costOf(model.edges.get(e));
            same("cost of edge " + e, cut.edge(e, 3), cost);
            same("length of edge " + e, cut.edge(e, 4), 10000 / cost);
        }
    }

    private void compareVertices() {
        same("rounds", cut.rounds(), model.groups()[model.n]);
        int v = near(model.n);
        if (!vertex(v)) {
            Check.noIndex(run + "fixed", () -> cut.fixed(v));
            Check.noIndex(run + "exact", () -> cut.exact(v));
        } else {
            same("burden " + v, cut.burden(v), model.loads[v]);
            same("label " + v, cut.label(v), model.labels[v]);
            same("exact " + v, cut.exact(v), model.exact()[v]);
            same("nearest " + v, cut.nearest(v), model.nearest(v));
            same("distance " + v, cut.distance(v), model.distance(v));
            same("fixed " + v, cut.fixed(v), model.fixed(v));
        }
        compareTerminal(v);
    }

    private void compareTerminal(int v) {
        if (terminal(v)) {
            same("isolatingValue " + v, cut.isolatingValue(v), model.isolatingValue(v));
            same("isolatingSet " + v, cut.isolatingSet(v), model.isolatingSet(v));
            same("price " + v, cut.price(v), model.price(v));
        } else {
            Check.noArgument(run + "isolatingValue " + v, () -> cut.isolatingValue(v));
            Check.noArgument(run + "isolatingSet " + v, () -> cut.isolatingSet(v));
            Check.noArgument(run + "price " + v, () -> cut.price(v));
        }
    }
}
