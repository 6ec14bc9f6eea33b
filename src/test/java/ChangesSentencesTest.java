import java.math.BigInteger;
import java.util.ArrayList;
import java.util.List;

/** Sentence by sentence what names a boundary: changes, undo, the first load, exceptions, and promises 36 to 41. */
public final class ChangesSentencesTest {
    private static final int[] OUTSIDE = {-1, 9, 10, 31, 32, 40, Integer.MIN_VALUE, Integer.MAX_VALUE};
    private static final int[] NO_WEIGHTS = {0, -1, 100, 101, Integer.MIN_VALUE, Integer.MAX_VALUE};
    private static final String SETUP = "graph 5;terminal 0;terminal 4;edge 0 1 5;edge 1 2 6;edge 2 4 7;load 1 3;cost weight+low;";

    public static void main(String[] args) {
        calls512();
        sameDataIsAChange();
        everyMethodIsUndone();
        othersAreNoChanges();
        latestEight();
        undoneOnesMakeRoom();
        beforeTheFirstLoad();
        firstInTheList();
        exceptionsChangeNothing();
        setWeightAnswers();
        setWeightThrows();
        addEdgeAnswers();
        addEdgeVertices();
        addEdgeArguments();
        addEdgeStates();
        removeEdgeIndexes();
        removeEdgeThrows();
        newTerminal();
        noTerminalAnyMore();
        sixthTerminal();
        setTerminalThrows();
        undoKeepsBuffer();
        undoAnswers();
        nothingToUndo();
        checksumOrder();
        checksumWraps();
        Check.end();
    }

    /** All that can be read of an object. */
    private static String state(MultiwayCut cut) {
        StringBuilder text = new StringBuilder();
        text.append(cut.size()).append(' ').append(cut.edgeCount()).append(' ').append(cut.terminals()).append(' ');
        for (int edge = 0; edge < cut.edgeCount(); edge++) {
            for (int what = 0; what < 5; what++) {
                text.append(cut.edge(edge, what)).append(' ');
            }
        }
        for (int vertex = 0; vertex < cut.size(); vertex++) {
            text.append(cut.burden(vertex)).append(' ').append(cut.label(vertex)).append(' ');
        }
        return text.append(cut.checksum()).append(' ').append(cut.errorOffset()).toString();
    }

    private static int changes(MultiwayCut cut) {
        int count = 0;
        while (count < 100 && cut.undo() >= 0) {
            count++;
        }
        return count;
    }

    /** The changing method of that number, so that it changes no data; the SETUP has to be there. */
    private static void changeNothing(MultiwayCut cut, int method) {
        switch (method) {
            case 0: Check.load(cut, SETUP); break;
            case 1: cut.setLabel(1, -1); break;
            case 2: cut.useNearest(); break;
            case 3: cut.useUnion(); break;
            case 4: cut.useExact(); break;
            case 5: cut.improve(1); break;
            case 6: cut.setWeight(0, 5); break;
            case 7: cut.setTerminal(4, true); break;
            default: cut.setTerminal(2, false); break;
        }
    }

    private static void change(MultiwayCut cut, int method) {
        switch (method) {
            case 0: Check.load(cut, "graph 9;terminal 8;edge 7 8 1;load 7 9;cost low*high+2;"); break;
            case 1: cut.setLabel(3, 0); break;
            case 2: cut.useNearest(); break;
            case 3: cut.useUnion(); break;
            case 4: cut.useExact(); break;
            case 5: cut.improve(20); break;
            case 6: cut.setWeight(1, 99); break;
            case 7: cut.addEdge(4, 3, 50); break;
            case 8: cut.removeEdge(0); break;
            case 9: cut.setTerminal(2, true); break;
            default: cut.setTerminal(4, false); break;
        }
    }

    // ---- Changes ----

    private static void calls512() {
        Check.sentence("An object is used for at most 512 calls after it has been made;");
        MultiwayCut cut = new MultiwayCut();
        Check.put(cut, "graph 9;terminal 0;terminal 8;edge 0 8 5;");
        cut.load(41);
        for (int call = 5; call <= 511; call++) {
            cut.setWeight(0, 1 + call % 99);
        }
        Check.sameLong("the 512th call", cut.setWeight(0, 7), 1 + 511 % 99);
        MultiwayCut failing = new MultiwayCut();
        for (int call = 1; call <= 511; call++) {
            failing.load(0);
        }
        Check.sameLong("the 512th call", failing.append(0, 0, 0, 0, 0), 20);
    }

    private static void sameDataIsAChange() {
        Check.sentence("Each such call that does not throw an exception is a change, also if all data stay as they were.");
        for (int method = 0; method <= 8; method++) {
            MultiwayCut cut = Check.of(SETUP);
            int before = 1;
            if (method >= 3 && method <= 5) {
                cut.useExact();
                before = 2;
            }
            if (method == 2) {
                cut.useNearest();
                before = 2;
            }
            String state = state(cut);
            changeNothing(cut, method);
            Check.sameText("the data stay with method " + method, state(cut), state);
            Check.sameLong("changes of method " + method, changes(cut), before + 1);
        }
        MultiwayCut none = new MultiwayCut();
        none.useNearest();
        none.useExact();
        none.improve(20);
        Check.sameLong("changes without a graph", changes(none), 3);
    }

    private static void everyMethodIsUndone() {
        Check.sentence("The changing methods are load (when it succeeds), setLabel, useNearest, useUnion, useExact, improve, setWeight, "
            + "addEdge, removeEdge and setTerminal.");
        for (int method = 0; method <= 10; method++) {
            MultiwayCut cut = Check.of(SETUP);
            cut.setLabel(2, 0);
            String before = state(cut);
            change(cut, method);
            Check.is("data change with method " + method, !state(cut).equals(before));
            Check.sameLong("a change of method " + method, cut.undo(), 2);
            Check.sameText("undone method " + method, state(cut), before);
            cut.setWeight(0, 20);
            Check.sameLong("the old costs count again after method " + method, cut.edge(0, 3), 20);
            Check.sameLong("also with a load after method " + method, cut.edge(1, 3), 9);
        }
    }

    private static void othersAreNoChanges() {
        Check.sentence("load (when it succeeds)");
        MultiwayCut cut = Check.of(SETUP);
        Check.load(cut, "graph 2;x");
        cut.load(0);
        cut.append(0, 0, 0, 0, 0);
        state(cut);
        cut.cutCost(1);
        cut.separates(1);
        cut.isolatingValue(0);
        cut.isolatingSet(0);
        cut.lowerBound();
        cut.dearest();
        cut.unionCut();
        cut.unionCost();
        cut.rounds();
        cut.fixed(1);
        cut.exactCost();
        cut.exact(1);
        cut.price(0);
        cut.nearest(1);
        cut.distance(1);
        cut.cut();
        cut.ratio();
        cut.meanCost();
        cut.bestMove(0);
        Check.sameLong("only the first load", changes(cut), 1);
    }

    private static void latestEight() {
        Check.sentence("The latest 8 changes that have not been undone can be undone, the latest one first.");
        for (int count = 0; count <= 20; count++) {
            MultiwayCut cut = new MultiwayCut();
            if (count > 0) {
                Check.load(cut, SETUP);
            }
            for (int k = 1; k < count; k++) {
                cut.setWeight(0, 10 + k);
            }
            int left = Math.min(8, count);
            for (int k = count - 1; k >= count - left; k--) {
                Check.sameLong("left of " + count, cut.undo(), left - count + k);
                int weight = k > 1 ? 10 + k - 1 : 5;
                Check.sameLong("weight", k == 0 ? cut.size() : cut.edge(0, 2), k == 0 ? 0 : weight);
            }
            Check.sameLong("no more of " + count, cut.undo(), -1);
        }
    }

    private static void undoneOnesMakeRoom() {
        Check.sentence("Undoes the latest change that has not been undone.");
        MultiwayCut cut = Check.of(SETUP);
        cut.setWeight(0, 11);
        cut.setWeight(0, 12);
        Check.sameLong("12 is undone", cut.undo(), 2);
        cut.setWeight(0, 13);
        Check.sameLong("13 is undone", cut.undo(), 2);
        Check.sameLong("11", cut.edge(0, 2), 11);
        Check.sameLong("11 is undone", cut.undo(), 1);
        Check.sameLong("5", cut.edge(0, 2), 5);
        for (int k = 0; k < 30; k++) {
            cut.setWeight(1, 50 + k);
            Check.sameLong("each one is undone", cut.undo(), 1);
            Check.sameLong("6", cut.edge(1, 2), 6);
        }
        Check.sameLong("the load is undone", cut.undo(), 0);
    }

    private static void beforeTheFirstLoad() {
        Check.sentence("Before the first successful load there are no vertices and no edges.");
        MultiwayCut cut = new MultiwayCut();
        Check.load(cut, "graph 5;edge 0 1 5;terminal 0;x");
        Check.sameLong("vertices", cut.size(), 0);
        Check.sameLong("edges", cut.edgeCount(), 0);
        Check.sameLong("terminals", cut.terminals(), 0);
        Check.noIndex("burden", () -> cut.burden(0));
        Check.noIndex("edge", () -> cut.edge(0, 0));
        Check.sameLong("cutCost", cut.cutCost(0), 0);
        Check.is("separates", cut.separates(0));
        Check.noArgument("isolatingValue", () -> cut.isolatingValue(0));
        Check.noIndex("fixed", () -> cut.fixed(0));
        Check.noIndex("exact", () -> cut.exact(0));
        Check.noIndex("label", () -> cut.label(0));
        Check.noIndex("setLabel", () -> cut.setLabel(0, -1));
        Check.noIndex("setWeight", () -> cut.setWeight(0, 5));
        Check.noIndex("addEdge", () -> cut.addEdge(0, 1, 5));
        Check.noIndex("removeEdge", () -> cut.removeEdge(0));
        Check.noIndex("setTerminal", () -> cut.setTerminal(0, true));
        Check.noIndex("setTerminal", () -> cut.setTerminal(0, false));
        Check.sameLong("undo", cut.undo(), -1);
        Check.sameLong("checksum", cut.checksum(), 0);
    }

    // ---- Exceptions ----

    private static void firstInTheList() {
        Check.sentence("If several exceptions apply to a call, the one that comes first in the method's throws list is thrown.");
        MultiwayCut cut = Check.of("graph 9;terminal 0;terminal 1;terminal 2;terminal 3;terminal 4;edge 0 1 5;");
        Check.noIndex("edge: index and what", () -> cut.edge(1, 5));
        Check.noIndex("setLabel: vertex and terminal", () -> cut.setLabel(9, 5));
        Check.noArgument("setLabel: no terminal, and the vertex is one", () -> cut.setLabel(0, 5));
        Check.noIndex("setWeight: index and weight", () -> cut.setWeight(1, 0));
        Check.noIndex("addEdge: vertices and weight", () -> cut.addEdge(9, 9, 0));
        Check.noIndex("addEdge: second vertex and weight", () -> cut.addEdge(0, 9, 0));
        Check.noIndex("addEdge: first vertex and weight", () -> cut.addEdge(-1, 0, 100));
        Check.noArgument("addEdge: weight, and an edge is there", () -> cut.addEdge(1, 0, 100));
        Check.noIndex("setTerminal: vertex, and there are 5", () -> cut.setTerminal(9, true));
        MultiwayCut full = fullOfEdges();
        Check.noIndex("addEdge: vertex, and there are 20", () -> full.addEdge(9, 0, 5));
        Check.noArgument("addEdge: weight, and there are 20", () -> full.addEdge(7, 8, 0));
        Check.noArgument("addEdge: the same vertex, and there are 20", () -> full.addEdge(8, 8, 5));
    }

    private static void exceptionsChangeNothing() {
        Check.sentence("A method that throws an exception changes nothing.");
        MultiwayCut cut = Check.of(SETUP);
        cut.setLabel(2, 0);
        Check.put(cut, "graph 2;");
        String before = state(cut);
        for (int bad : OUTSIDE) {
            Check.noArgument("load", () -> cut.load(bad == 9 || bad == 10 ? 21 : bad));
            Check.noIndex("edge", () -> cut.edge(bad, 0));
            Check.noArgument("edge", () -> cut.edge(0, bad));
            Check.noArgument("cutCost", () -> cut.cutCost(bad < 0 ? bad : bad | 32));
            Check.noArgument("separates", () -> cut.separates(bad) ? 1 : 0);
            Check.noArgument("price", () -> cut.price(bad));
            Check.noArgument("bestMove", () -> cut.bestMove(bad));
            Check.noIndex("setLabel", () -> cut.setLabel(bad, 0));
            Check.noArgument("setLabel", () -> cut.setLabel(1, bad == -1 ? -2 : bad));
            Check.noState("setLabel", () -> cut.setLabel(0, -1));
            Check.noIndex("setWeight", () -> cut.setWeight(bad, 9));
            Check.noArgument("setWeight", () -> cut.setWeight(0, bad > 0 && bad < 100 ? 100 : bad));
            Check.noIndex("addEdge", () -> cut.addEdge(bad, 3, 9));
            Check.noIndex("addEdge", () -> cut.addEdge(3, bad, 9));
            Check.noArgument("addEdge", () -> cut.addEdge(3, 4, bad > 0 && bad < 100 ? 0 : bad));
            Check.noState("addEdge", () -> cut.addEdge(1, 0, 9));
            Check.noIndex("removeEdge", () -> cut.removeEdge(bad));
            Check.noIndex("setTerminal", () -> cut.setTerminal(bad, bad > 9));
            Check.noArgument("improve", () -> cut.improve(bad > 0 && bad < 21 ? 0 : bad));
            Check.sameText("state", state(cut), before);
        }
        Check.sameLong("no change", changes(cut), 2);
        Check.sameLong("the buffer is as it was", cut.load(8), 0);
        MultiwayCut none = Check.of("graph 2;");
        Check.noState("useUnion", () -> none.useUnion());
        Check.sameLong("no change", changes(none), 1);
    }

    // ---- Promises 36 to 38 ----

    private static void setWeightAnswers() {
        Check.sentence("Sets the weight of an edge. - `edge`: index of an edge - `weight`: 1 to 99 Returns its previous weight.");
        MultiwayCut cut = Check.of(SETUP);
        Check.sameLong("least", cut.setWeight(0, 1), 5);
        Check.sameLong("greatest", cut.setWeight(0, 99), 1);
        Check.sameLong("the last edge", cut.setWeight(2, 1), 7);
        Check.sameLong("again", cut.setWeight(2, 1), 1);
        Check.sameLong("weight", cut.edge(0, 2), 99);
        Check.sameLong("cost", cut.edge(0, 3), 99);
        Check.sameLong("the edge between", cut.edge(1, 2), 6);
    }

    private static void setWeightThrows() {
        Check.sentence("`int setWeight(int edge, int weight) throws IndexOutOfBoundsException, IllegalArgumentException`");
        MultiwayCut cut = Check.of(SETUP);
        for (int edge : new int[] {-1, 3, 4, 20, 32, Integer.MIN_VALUE, Integer.MAX_VALUE}) {
            Check.noIndex("edge " + edge, () -> cut.setWeight(edge, 5));
        }
        for (int weight : NO_WEIGHTS) {
            Check.noArgument("weight " + weight, () -> cut.setWeight(2, weight));
        }
        Check.noIndex("no edge", () -> Check.of("graph 2;").setWeight(0, 5));
        Check.sameLong("nothing has changed", cut.edge(2, 2), 7);
    }

    private static MultiwayCut fullOfEdges() {
        MultiwayCut cut = Check.of("graph 9;");
        for (int k = 0; k < 20; k++) {
            cut.addEdge(k % 9, (k % 9 + 1 + k / 9) % 9, 1 + k);
        }
        return cut;
    }

    private static void addEdgeAnswers() {
        Check.sentence("Adds an edge behind the others. - `a`: a vertex - `b`: a vertex - `weight`: 1 to 99 Returns its index.");
        MultiwayCut cut = Check.of("graph 9;load 8 50;cost weight+high;");
        Check.sameLong("the first one", cut.addEdge(8, 0, 99), 0);
        Check.sameLong("the second one", cut.addEdge(0, 1, 1), 1);
        Check.sameLong("its smaller end", cut.edge(0, 0), 0);
        Check.sameLong("its greater end", cut.edge(0, 1), 8);
        Check.sameLong("its cost", cut.edge(0, 3), 149);
        MultiwayCut full = fullOfEdges();
        Check.sameLong("20 edges", full.edgeCount(), 20);
        full.removeEdge(0);
        Check.sameLong("the 20th one", full.addEdge(0, 1, 77), 19);
        Check.sameLong("its weight", full.edge(19, 2), 77);
        Check.sameLong("the one before", full.edge(18, 2), 20);
    }

    private static void addEdgeVertices() {
        Check.sentence("if one of the vertices does not exist");
        MultiwayCut cut = Check.of("graph 9;");
        for (int vertex : OUTSIDE) {
            Check.noIndex("first " + vertex, () -> cut.addEdge(vertex, 0, 5));
            Check.noIndex("second " + vertex, () -> cut.addEdge(0, vertex, 5));
            Check.noIndex("both " + vertex, () -> cut.addEdge(vertex, vertex, 5));
        }
        Check.noIndex("no graph", () -> new MultiwayCut().addEdge(0, 1, 5));
        Check.sameLong("the last vertex", cut.addEdge(0, 8, 5), 0);
        Check.noIndex("a third vertex", () -> Check.of("graph 2;").addEdge(1, 2, 5));
    }

    private static void addEdgeArguments() {
        Check.sentence("if both are the same, or weight is out of range");
        MultiwayCut cut = Check.of("graph 9;");
        for (int vertex = 0; vertex < 9; vertex++) {
            int both = vertex;
            Check.noArgument("both " + vertex, () -> cut.addEdge(both, both, 5));
        }
        for (int weight : NO_WEIGHTS) {
            Check.noArgument("weight " + weight, () -> cut.addEdge(0, 1, weight));
        }
        Check.sameLong("no edge", cut.edgeCount(), 0);
        Check.sameLong("weight 1", cut.addEdge(0, 1, 1), 0);
        Check.sameLong("weight 99", cut.addEdge(0, 2, 99), 1);
    }

    private static void addEdgeStates() {
        Check.sentence("if there is an edge between them, or if there are 20 edges");
        MultiwayCut cut = Check.of(SETUP);
        Check.noState("0 1", () -> cut.addEdge(0, 1, 5));
        Check.noState("1 0", () -> cut.addEdge(1, 0, 5));
        Check.noState("the last one", () -> cut.addEdge(4, 2, 5));
        Check.sameLong("no edge more", cut.edgeCount(), 3);
        MultiwayCut full = fullOfEdges();
        Check.noState("a 21st one", () -> full.addEdge(0, 4, 5));
        Check.noState("a 21st one that is there", () -> full.addEdge(0, 1, 5));
        Check.sameLong("20 edges", full.edgeCount(), 20);
        full.removeEdge(19);
        Check.noState("20th one that is there", () -> full.addEdge(0, 1, 5));
        Check.sameLong("20th one", full.addEdge(0, 4, 5), 19);
    }

    private static void removeEdgeIndexes() {
        Check.sentence("Removes an edge; the indexes of the edges behind it become smaller by 1. - `edge`: index of an edge Returns the number of edges then.");
        for (int gone = 0; gone < 20; gone++) {
            MultiwayCut cut = fullOfEdges();
            Check.sameLong("removed " + gone, cut.removeEdge(gone), 19);
            for (int edge = 0; edge < 19; edge++) {
                Check.sameLong("weight of edge " + edge, cut.edge(edge, 2), edge < gone ? edge + 1 : edge + 2);
            }
            Check.noIndex("the last one", () -> cut.edge(19, 2));
        }
        MultiwayCut cut = fullOfEdges();
        for (int left = 19; left >= 0; left--) {
            Check.sameLong("left", cut.removeEdge(left / 2), left);
        }
        Check.sameLong("no cost", cut.cutCost(1), 0);
        MultiwayCut last = Check.of("graph 3;terminal 0;terminal 2;edge 0 1 5;edge 1 2 7;");
        last.removeEdge(1);
        Check.sameLong("no cut of the removed one", last.cut(), 1);
        Check.sameLong("no cost of it", last.cutCost(4), 0);
        Check.sameLong("no exact cost of it", last.exactCost(), 0);
        Check.sameLong("no way over it", last.nearest(1), 0);
        Check.is("it does not join", last.separates(0));
        Check.same("no mean cost of it", last.meanCost(), 2.5);
        MultiwayCut shifted = Check.of(SETUP);
        shifted.removeEdge(0);
        Check.sameLong("ends", shifted.edge(1, 0) * 10 + shifted.edge(1, 1), 24);
        Check.sameLong("cost", shifted.edge(0, 3), 9);
        Check.sameLong("cut", shifted.cut(), 2);
    }

    private static void removeEdgeThrows() {
        Check.sentence("`int removeEdge(int edge) throws IndexOutOfBoundsException`");
        MultiwayCut cut = Check.of(SETUP);
        for (int edge : new int[] {-1, 3, 4, 20, 32, Integer.MIN_VALUE, Integer.MAX_VALUE}) {
            Check.noIndex("edge " + edge, () -> cut.removeEdge(edge));
        }
        Check.sameLong("the last one", cut.removeEdge(2), 2);
        Check.noIndex("it is gone", () -> cut.removeEdge(2));
        Check.noIndex("no edge", () -> Check.of("graph 2;").removeEdge(0));
        Check.noIndex("no graph", () -> new MultiwayCut().removeEdge(0));
    }

    // ---- Promise 39 ----

    private static void newTerminal() {
        Check.sentence("A new terminal has itself in the present assignment;");
        MultiwayCut cut = Check.of(SETUP);
        Check.sameLong("it had none", cut.setTerminal(1, true), 3);
        cut.setLabel(2, 1);
        Check.sameLong("it had another one", cut.setTerminal(2, true), 4);
        Check.sameText("labels", Check.labels(cut), "0 1 2 -1 4");
        Check.sameLong("the set", cut.terminals(), 1 + 2 + 4 + 16);
        Check.sameLong("it is one already", cut.setTerminal(0, true), 4);
        Check.sameText("labels stay", Check.labels(cut), "0 1 2 -1 4");
    }

    private static void noTerminalAnyMore() {
        Check.sentence("a vertex that is no terminal any more has none, and neither has a vertex that had it.");
        MultiwayCut cut = Check.of("graph 9;terminal 0;terminal 8;");
        for (int vertex = 1; vertex < 8; vertex++) {
            cut.setLabel(vertex, vertex < 4 ? 0 : 8);
        }
        Check.sameLong("terminal 0", cut.setTerminal(0, false), 1);
        Check.sameText("none instead of 0", Check.labels(cut), "-1 -1 -1 -1 8 8 8 8 8");
        Check.sameLong("it was none", cut.setTerminal(5, false), 1);
        Check.sameText("a vertex that was none keeps its terminal", Check.labels(cut), "-1 -1 -1 -1 8 8 8 8 8");
        Check.sameLong("terminal 8", cut.setTerminal(8, false), 0);
        Check.sameText("none at all", Check.labels(cut), "-1 -1 -1 -1 -1 -1 -1 -1 -1");
        Check.sameLong("no terminal", cut.terminals(), 0);
        Check.sameLong("none to end", cut.setTerminal(8, false), 0);
        cut.undo();
        cut.undo();
        Check.sameText("undone", Check.labels(cut), "-1 -1 -1 -1 8 8 8 8 8");
    }

    private static void sixthTerminal() {
        Check.sentence("Throws `IllegalStateException` if it would be a 6th terminal");
        MultiwayCut cut = Check.of("graph 9;terminal 1;terminal 2;terminal 3;terminal 4;");
        Check.sameLong("the fifth one", cut.setTerminal(8, true), 5);
        for (int vertex : new int[] {0, 5, 6, 7}) {
            Check.noState("a sixth one", () -> cut.setTerminal(vertex, true));
            Check.sameLong("not one", cut.setTerminal(vertex, false), 5);
        }
        for (int vertex : new int[] {1, 2, 3, 4, 8}) {
            Check.sameLong("it is one of five", cut.setTerminal(vertex, true), 5);
        }
        Check.sameLong("one less", cut.setTerminal(1, false), 4);
        Check.sameLong("the fifth one", cut.setTerminal(0, true), 5);
        Check.noState("a sixth one", () -> cut.setTerminal(1, true));
        Check.sameLong("the set", cut.terminals(), 1 + 4 + 8 + 16 + 256);
    }

    private static void setTerminalThrows() {
        Check.sentence("`int setTerminal(int vertex, boolean isTerminal) throws IndexOutOfBoundsException, IllegalStateException`");
        MultiwayCut cut = Check.of("graph 9;");
        for (int vertex : OUTSIDE) {
            Check.noIndex("true " + vertex, () -> cut.setTerminal(vertex, true));
            Check.noIndex("false " + vertex, () -> cut.setTerminal(vertex, false));
        }
        Check.sameLong("the first vertex", cut.setTerminal(0, true), 1);
        Check.sameLong("the last vertex", cut.setTerminal(8, true), 2);
        Check.noIndex("a third vertex", () -> Check.of("graph 2;").setTerminal(2, true));
        Check.sameLong("all of two", allOfTwo(), 2);
    }

    private static int allOfTwo() {
        MultiwayCut cut = Check.of("graph 2;terminal 1;");
        return cut.setTerminal(0, true);
    }

    // ---- Promises 40 and 41 ----

    private static void undoKeepsBuffer() {
        Check.sentence("The input buffer and the error offset are not affected.");
        MultiwayCut cut = Check.of(SETUP);
        Check.load(cut, "graph 2;edge 0 1 5;");
        Check.load(cut, "graph 2?");
        Check.put(cut, "graph 7;");
        Check.sameLong("the second load is undone", cut.undo(), 1);
        Check.sameLong("size", cut.size(), 5);
        Check.sameLong("the error offset", cut.errorOffset(), 7);
        Check.sameLong("the first load is undone", cut.undo(), 0);
        Check.sameLong("the error offset", cut.errorOffset(), 7);
        Check.sameLong("the input buffer", cut.load(8), 0);
        Check.sameLong("size", cut.size(), 7);
        Check.sameLong("no error", cut.errorOffset(), -1);
        Check.sameLong("the load is undone", cut.undo(), 0);
        Check.sameLong("still no error", cut.errorOffset(), -1);
        Check.noArgument("the buffer is still empty", () -> cut.load(1));
    }

    private static void undoAnswers() {
        Check.sentence("Returns the number of changes that can still be undone;");
        MultiwayCut cut = Check.of(SETUP);
        Check.sameLong("one change", cut.undo(), 0);
        for (int k = 0; k < 8; k++) {
            Check.load(cut, SETUP);
        }
        Check.sameLong("eight changes", cut.undo(), 7);
        Check.load(cut, SETUP);
        Check.load(cut, SETUP);
        Check.sameLong("nine changes that have not been undone", cut.undo(), 7);
        Check.sameLong("the rest", changes(cut), 7);
    }

    private static void nothingToUndo() {
        Check.sentence("-1 if there was none to undo, and nothing changes then.");
        MultiwayCut cut = new MultiwayCut();
        Check.sameLong("a new object", cut.undo(), -1);
        Check.sameLong("once more", cut.undo(), -1);
        for (int k = 0; k < 9; k++) {
            Check.load(cut, SETUP);
            cut.setWeight(0, 30 + k);
        }
        Check.sameLong("all that can be undone", changes(cut), 8);
        String before = state(cut);
        Check.sameLong("no more", cut.undo(), -1);
        Check.sameText("nothing changes", state(cut), before);
        cut.setWeight(0, 44);
        Check.sameLong("a change after that", cut.undo(), 0);
        Check.sameText("it is undone", state(cut), before);
    }

    private static long sum(int... numbers) {
        long sum = 0;
        for (int number : numbers) {
            sum = 31 * sum + number;
        }
        return sum;
    }

    private static void checksumOrder() {
        Check.sentence("size(), terminals(); for each edge its ends (the smaller number first) and its weight; for each vertex label(vertex); then cost().");
        Check.sameLong("no graph", new MultiwayCut().checksum(), 0);
        Check.sameLong("no edge", Check.of("graph 2;").checksum(), sum(2, 0, -1, -1, 0));
        MultiwayCut cut = Check.of("graph 3;terminal 2;terminal 0;edge 2 1 9;edge 1 0 8;cost weight*2;");
        Check.sameLong("two edges", cut.checksum(), sum(3, 5, 1, 2, 9, 0, 1, 8, 0, -1, 2, 34));
        cut.setLabel(1, 2);
        Check.sameLong("a label", cut.checksum(), sum(3, 5, 1, 2, 9, 0, 1, 8, 0, 2, 2, 16));
    }

    private static void checksumWraps() {
        Check.sentence("31 * checksum + n, wrapping around on overflow of a long");
        MultiwayCut cut = fullOfEdges();
        BigInteger sum = BigInteger.ZERO;
        List<Integer> numbers = new ArrayList<>(List.of(9, 0));
        for (int edge = 0; edge < 20; edge++) {
            numbers.addAll(List.of(cut.edge(edge, 0), cut.edge(edge, 1), cut.edge(edge, 2)));
        }
        for (int vertex = 0; vertex < 9; vertex++) {
            numbers.add(-1);
        }
        numbers.add(0);
        for (int number : numbers) {
            sum = sum.multiply(BigInteger.valueOf(31)).add(BigInteger.valueOf(number));
        }
        Check.is("it is beyond a long", sum.bitLength() > 64);
        Check.sameLong("20 edges", cut.checksum(), sum.longValue());
    }
}
