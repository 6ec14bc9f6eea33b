/** Promises 5 to 11: size, edgeCount, terminals, burden, edge, cutCost, separates. */
public final class GraphTest {
    public static void main(String[] args) {
        sizes();
        edges();
        cutCosts();
        separating();
        Check.end();
    }

    private static void sizes() {
        for (int n = 2; n <= 9; n++) {
            MultiwayCut cut = Check.of("graph " + n + ";terminal 1;load 0 99;");
            Check.sameLong("5: size", cut.size(), n);
            Check.sameLong("7: terminals", cut.terminals(), 2);
            Check.sameLong("8: burden", cut.burden(0), 99);
            Check.sameLong("8: no load", cut.burden(n - 1), 0);
            Check.noIndex("8: negative", () -> cut.burden(-1));
            Check.noIndex("8: beyond", () -> cut.burden(cut.size()));
            Check.noIndex("8: far beyond", () -> cut.burden(Integer.MAX_VALUE));
            Check.sameLong("6: no edge", cut.edgeCount(), 0);
            Check.sameLong("37: an edge", cut.addEdge(1, 0, 4), 0);
            Check.sameLong("6: an edge", cut.edgeCount(), 1);
        }
        MultiwayCut cut = new MultiwayCut();
        Check.noIndex("8: nothing there", () -> cut.burden(0));
        Check.sameLong("7: all", Check.of("graph 6;terminal 5;terminal 0;terminal 3;").terminals(), 41);
    }

    private static void edges() {
        MultiwayCut cut = Check.of("graph 9;edge 8 2 30;edge 0 1 7;load 2 3;load 8 5;cost weight*low-high;");
        int[] first = {2, 8, 30, 85, 117};
        int[] second = {0, 1, 7, 1, 10000};
        for (int what = 0; what < 5; what++) {
            Check.sameLong("9: first edge " + what, cut.edge(0, what), first[what]);
            Check.sameLong("9: second edge " + what, cut.edge(1, what), second[what]);
        }
        Check.noIndex("9: negative edge", () -> cut.edge(-1, 0));
        Check.noIndex("9: no such edge", () -> cut.edge(2, 0));
        Check.noIndex("9: both wrong", () -> cut.edge(2, 5));
        Check.noArgument("9: what is 5", () -> cut.edge(1, 5));
        Check.noArgument("9: what is negative", () -> cut.edge(1, -1));
        Check.sameLong("9: the shortest", Check.of("graph 2;edge 0 1 1;cost 9999;").edge(0, 4), 1);
    }

    private static void cutCosts() {
        MultiwayCut cut = Check.of("graph 4;edge 0 1 1;edge 1 2 10;edge 2 3 30;edge 0 3 40;edge 0 2 5;");
        int[] due = {0, 46, 11, 55, 45, 81, 36, 70};
        for (int set = 0; set < due.length; set++) {
            Check.sameLong("10: cutCost " + set, cut.cutCost(set), due[set]);
            Check.sameLong("10: the others " + set, cut.cutCost(15 - set), due[set]);
        }
        Check.noArgument("10: negative", () -> cut.cutCost(-1));
        Check.noArgument("10: 2^n", () -> cut.cutCost(16));
        Check.noArgument("10: far beyond", () -> cut.cutCost(Integer.MAX_VALUE));
    }

    private static void separating() {
        // a way of edges 0, 1, 2 from terminal 0 by 1 and 2 to terminal 3, and edge 3 past it
        MultiwayCut cut = Check.of("graph 5;terminal 0;terminal 3;edge 0 1 1;edge 1 2 1;edge 2 3 1;edge 0 3 1;edge 3 4 1;");
        for (int set = 0; set < 32; set++) {
            long due = (set & 7) != 0 && (set & 8) != 0 ? 1 : 0;
            Check.sameLong("11: separates " + set, cut.separates(set) ? 1 : 0, due);
        }
        Check.noArgument("11: negative", () -> cut.separates(-1) ? 1 : 0);
        Check.noArgument("11: 2^m", () -> cut.separates(32) ? 1 : 0);
        cut.setTerminal(4, true);
        Check.sameLong("11: three terminals", cut.separates(9) ? 1 : 0, 0);
        Check.sameLong("11: three are kept apart", cut.separates(25) ? 1 : 0, 1);
        MultiwayCut one = Check.of("graph 3;terminal 0;edge 0 1 1;edge 1 2 1;edge 0 2 1;");
        Check.sameLong("11: one terminal", one.separates(0) ? 1 : 0, 1);
        MultiwayCut none = Check.of("graph 3;");
        Check.sameLong("11: no edges", none.separates(0) ? 1 : 0, 1);
        Check.noArgument("11: no such edges", () -> none.separates(1) ? 1 : 0);
        MultiwayCut chain = Check.of("graph 9;terminal 0;terminal 8;edge 7 8 1;edge 6 7 1;edge 5 6 1;edge 4 5 1;"
            + "edge 3 4 1;edge 2 3 1;edge 1 2 1;edge 0 1 1;");
        Check.sameLong("11: a long way", chain.separates(0) ? 1 : 0, 0);
        Check.sameLong("11: a long way cut", chain.separates(16) ? 1 : 0, 1);
    }
}
