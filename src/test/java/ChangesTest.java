/** Promises 36 to 41: changes of the graph, undo, and the checksum. */
public final class ChangesTest {
    private static final String TRIANGLE =
        "graph 4;terminal 0;terminal 2;edge 0 1 5;edge 1 2 6;edge 2 0 7;load 1 10;load 3 4;cost weight+high;";

    public static void main(String[] args) {
        weights();
        addedEdges();
        fullOfEdges();
        removedEdges();
        terminals();
        sixthTerminal();
        undoes();
        undoesAll();
        undoesLoads();
        checksums();
        Check.end();
    }

    private static void weights() {
        MultiwayCut cut = Check.of(TRIANGLE);
        Check.noIndex("36: no such edge", () -> cut.setWeight(3, 0));
        Check.noIndex("36: negative", () -> cut.setWeight(-1, 5));
        Check.noArgument("36: 0", () -> cut.setWeight(0, 0));
        Check.noArgument("36: 100", () -> cut.setWeight(0, 100));
        Check.sameLong("36: previous", cut.setWeight(0, 99), 5);
        Check.sameLong("36: previous then", cut.setWeight(0, 1), 99);
        Check.sameLong("36: weight", cut.edge(0, 2), 1);
        Check.sameLong("36: cost", cut.edge(0, 3), 11);
        Check.sameLong("36: another edge", cut.edge(1, 2), 6);
        Check.sameLong("36: the same weight is a change, too", cut.setWeight(0, 1), 1);
        Check.sameLong("36: changes", cut.undo(), 3);
        cut.undo();
        Check.sameLong("36: cost undone", cut.edge(0, 3), 109);
    }

    private static void addedEdges() {
        MultiwayCut cut = Check.of(TRIANGLE);
        Check.noIndex("37: first vertex", () -> cut.addEdge(4, 4, 0));
        Check.noIndex("37: second vertex", () -> cut.addEdge(0, -1, 5));
        Check.noIndex("37: second vertex", () -> cut.addEdge(0, 4, 5));
        Check.noArgument("37: the same", () -> cut.addEdge(3, 3, 5));
        Check.noArgument("37: weight 0", () -> cut.addEdge(0, 3, 0));
        Check.noArgument("37: weight 100 and an edge there", () -> cut.addEdge(0, 1, 100));
        Check.noState("37: an edge there", () -> cut.addEdge(0, 1, 5));
        Check.noState("37: an edge there", () -> cut.addEdge(1, 0, 5));
        Check.sameLong("37: no change", cut.edgeCount(), 3);
        Check.sameLong("37: index", cut.addEdge(3, 1, 99), 3);
        int[] due = {1, 3, 99, 103, 97};
        for (int what = 0; what < 5; what++) {
            Check.sameLong("37: edge " + what, cut.edge(3, what), due[what]);
        }
        Check.sameLong("37: next index", cut.addEdge(0, 3, 1), 4);
        Check.sameLong("37: changes", cut.undo(), 2);
        Check.sameLong("37: undone", cut.edgeCount(), 4);
    }

    private static void fullOfEdges() {
        MultiwayCut cut = Check.of("graph 9;");
        int count = 0;
        for (int a = 8; a > 0; a--) {
            for (int b = 0; b < a && count < 20; b++) {
                Check.sameLong("37: index", cut.addEdge(a, b, 1), count);
                count++;
            }
        }
        Check.noState("37: 20 edges", () -> cut.addEdge(0, 1, 1));
        Check.noState("37: 20 edges and one there", () -> cut.addEdge(8, 0, 1));
        Check.noArgument("37: 20 edges and the same", () -> cut.addEdge(1, 1, 1));
        Check.sameLong("10: the first edge", cut.cutCost(1), 3);
        Check.sameLong("11: all edges", cut.separates((1 << 20) - 1) ? 1 : 0, 1);
        Check.noArgument("11: beyond all edges", () -> cut.separates(1 << 20) ? 1 : 0);
        Check.sameLong("38: makes room", cut.removeEdge(19), 19);
        Check.sameLong("37: room again", cut.addEdge(0, 1, 1), 19);
    }

    private static void removedEdges() {
        MultiwayCut cut = Check.of(TRIANGLE);
        Check.noIndex("38: no such edge", () -> cut.removeEdge(3));
        Check.noIndex("38: negative", () -> cut.removeEdge(-1));
        Check.sameLong("38: edges", cut.removeEdge(0), 2);
        int[] first = {1, 2, 6, 6, 1666};
        int[] second = {0, 2, 7, 7, 1428};
        for (int what = 0; what < 5; what++) {
            Check.sameLong("38: first " + what, cut.edge(0, what), first[what]);
            Check.sameLong("38: second " + what, cut.edge(1, what), second[what]);
        }
        Check.noIndex("38: it is gone", () -> cut.edge(2, 0));
        Check.sameLong("38: the last one", cut.removeEdge(1), 1);
        Check.sameLong("38: the only one", cut.removeEdge(0), 0);
        Check.noIndex("38: none is left", () -> cut.removeEdge(0));
        Check.sameLong("38: undo", cut.undo(), 3);
        Check.sameLong("38: undone", cut.edge(0, 2), 6);
        Check.noIndex("38: no vertices", () -> new MultiwayCut().removeEdge(0));
    }

    private static void terminals() {
        MultiwayCut cut = Check.of(TRIANGLE);
        Check.noIndex("39: no such vertex", () -> cut.setTerminal(4, true));
        Check.noIndex("39: negative", () -> cut.setTerminal(-1, false));
        cut.setLabel(1, 2);
        cut.setLabel(3, 0);
        Check.sameLong("39: one more", cut.setTerminal(1, true), 3);
        Check.sameText("39: it has itself", Check.labels(cut), "0 1 2 0");
        Check.sameLong("39: it is one already", cut.setTerminal(1, true), 3);
        Check.sameLong("39: one less", cut.setTerminal(0, false), 2);
        Check.sameText("39: none has it", Check.labels(cut), "-1 1 2 -1");
        Check.sameLong("39: set", cut.terminals(), 6);
        cut.setLabel(3, 2);
        Check.sameLong("39: it was none", cut.setTerminal(3, false), 2);
        Check.sameText("39: it keeps its own", Check.labels(cut), "-1 1 2 2");
        Check.sameLong("39: the last but one", cut.setTerminal(2, false), 1);
        Check.sameLong("39: the last", cut.setTerminal(1, false), 0);
        Check.sameText("39: none", Check.labels(cut), "-1 -1 -1 -1");
        Check.sameLong("39: every call is a change", cut.undo(), 7);
        Check.sameText("39: undone", Check.labels(cut), "-1 1 -1 -1");
    }

    private static void sixthTerminal() {
        MultiwayCut cut = Check.of("graph 9;terminal 8;terminal 7;terminal 6;terminal 5;");
        Check.sameLong("39: the fifth", cut.setTerminal(0, true), 5);
        Check.noState("39: the sixth", () -> cut.setTerminal(1, true));
        Check.noIndex("39: the sixth is no vertex", () -> cut.setTerminal(9, true));
        Check.sameLong("39: no sixth", cut.setTerminal(8, true), 5);
        Check.sameLong("39: no terminal", cut.setTerminal(1, false), 5);
        Check.sameLong("39: a place", cut.setTerminal(8, false), 4);
        Check.sameLong("39: the fifth again", cut.setTerminal(1, true), 5);
        Check.sameLong("39: the set", cut.terminals(), 1 + 2 + 32 + 64 + 128);
    }

    private static void undoes() {
        MultiwayCut cut = Check.of(TRIANGLE);
        long[] sums = new long[12];
        for (int k = 0; k < 12; k++) {
            sums[k] = cut.checksum();
            cut.setWeight(0, 20 + k);
        }
        for (int left = 7; left >= 0; left--) {
            Check.sameLong("40: left", cut.undo(), left);
            Check.sameLong("40: as before", cut.checksum(), sums[4 + left]);
        }
        Check.sameLong("40: only 8", cut.undo(), -1);
        Check.sameLong("40: nothing changes then", cut.checksum(), sums[4]);
        cut.setWeight(0, 90);
        Check.sameLong("40: after undo", cut.undo(), 0);
        cut.setWeight(0, 91);
        cut.setWeight(0, 92);
        cut.undo();
        cut.setWeight(0, 93);
        Check.sameLong("40: two are left", cut.undo(), 1);
        Check.sameLong("40: weight", cut.edge(0, 2), 91);
        Check.sameLong("40: the other", cut.undo(), 0);
        Check.sameLong("40: all are undone", cut.checksum(), sums[4]);
    }

    private static void undoesAll() {
        MultiwayCut cut = Check.of(TRIANGLE);
        long[] sums = new long[9];
        sums[0] = cut.checksum();
        cut.setLabel(1, 0);
        sums[1] = cut.checksum();
        cut.useNearest();
        sums[2] = cut.checksum();
        cut.setWeight(2, 1);
        sums[3] = cut.checksum();
        cut.addEdge(3, 0, 8);
        sums[4] = cut.checksum();
        cut.removeEdge(1);
        sums[5] = cut.checksum();
        cut.setTerminal(3, true);
        sums[6] = cut.checksum();
        cut.improve(3);
        sums[7] = cut.checksum();
        Check.load(cut, "graph 2;");
        for (int left = 7; left >= 0; left--) {
            Check.sameLong("40: left", cut.undo(), left);
            Check.sameLong("40: as before " + left, cut.checksum(), sums[left]);
        }
        Check.sameLong("40: the cost expression is back", cut.edge(0, 3), 15);
        Check.sameLong("40: the loads are back", cut.burden(1), 10);
    }

    private static void undoesLoads() {
        MultiwayCut cut = new MultiwayCut();
        Check.load(cut, TRIANGLE);
        Check.load(cut, "graph 2;edge 0 1 3;cost 50;");
        Check.load(cut, "graph 2;x");
        Check.put(cut, "graph 3;edge 0 1 4;");
        Check.sameLong("40: an error is no change", cut.undo(), 1);
        Check.sameLong("40: the error offset stays", cut.errorOffset(), 8);
        cut.setWeight(0, 9);
        Check.sameLong("40: the old cost expression counts", cut.edge(0, 3), 19);
        Check.sameLong("40: of the weight", cut.undo(), 1);
        Check.sameLong("40: of the first load", cut.undo(), 0);
        Check.sameLong("40: no vertices", cut.size(), 0);
        Check.noIndex("40: no labels", () -> cut.label(0));
        Check.sameLong("40: nothing left", cut.undo(), -1);
        Check.sameLong("40: the input buffer stays", cut.load(19), 1);
        Check.sameLong("40: what it describes", cut.size(), 3);
        MultiwayCut other = Check.of(TRIANGLE);
        Check.noArgument("40: throws", () -> other.improve(0));
        Check.noState("40: throws", () -> other.setLabel(0, 0));
        Check.sameLong("40: what throws is no change", other.undo(), 0);
    }

    private static void checksums() {
        MultiwayCut cut = Check.of(TRIANGLE);
        cut.setLabel(3, 2);
        long due = 0;
        int[] parts = {4, 5, 0, 1, 5, 1, 2, 6, 0, 2, 7, 0, -1, 2, 2, 15 + 6 + 7};
        for (int part : parts) {
            due = 31 * due + part;
        }
        Check.sameLong("41: checksum", cut.checksum(), due);
        Check.sameLong("41: no vertices", new MultiwayCut().checksum(), 0);
        MultiwayCut great = Check.of("graph 9;terminal 8;edge 7 8 99;edge 6 7 99;edge 5 6 99;edge 4 5 99;edge 3 4 99;");
        long sum = 31 * 9 + 256;
        for (int low = 7; low >= 3; low--) {
            sum = 31 * (31 * (31 * sum + low) + low + 1) + 99;
        }
        for (int vertex = 0; vertex < 9; vertex++) {
            sum = 31 * sum + (vertex == 8 ? 8 : -1);
        }
        Check.sameLong("41: wraps around", great.checksum(), 31 * sum + 99);
    }
}
