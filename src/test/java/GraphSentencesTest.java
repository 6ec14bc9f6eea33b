/** Sentence by sentence what names a boundary: numbers, graphs, the cost expression, and promises 5 to 11. */
public final class GraphSentencesTest {
    private static final int[] OUTSIDE = {-1, -2, 9, 10, 31, 32, 64, Integer.MIN_VALUE, Integer.MAX_VALUE};

    public static void main(String[] args) {
        truncates();
        limited();
        setsAreNumbers();
        vertices();
        atMostTwentyEdges();
        weights();
        differentEnds();
        loads();
        atMostFiveTerminals();
        costRange();
        lowAndHigh();
        divisionByZero();
        leftToRight();
        resultLimits();
        noCostStatement();
        cutCosts();
        size();
        edgeCount();
        terminals();
        burden();
        edgeParts();
        edgeThrows();
        cutCostSets();
        separates();
        separatesSets();
        Check.end();
    }

    /** The cost of an edge of weight 10 between vertices with the loads 7 and 50. */
    private static void value(String formula, int due) {
        MultiwayCut cut = Check.of("graph 4;edge 3 1 10;load 1 7;load 3 50;cost " + formula + ";");
        Check.sameLong(formula, cut.edge(0, 3), due);
    }

    private static MultiwayCut withEdges(int count) {
        MultiwayCut cut = Check.of("graph 9;");
        int added = 0;
        for (int a = 0; a < 9; a++) {
            for (int b = a + 1; b < 9 && added < count; b++) {
                cut.addEdge(a, b, 1);
                added++;
            }
        }
        return cut;
    }

    // ---- Conventions and graphs ----

    private static void truncates() {
        Check.sentence("Integer division truncates toward zero.");
        value("7/2", 3);
        value("(0-7)/2+10", 7);
        value("7/(0-2)+10", 7);
        value("(0-7)/(0-2)+10", 13);
        value("(0-1)/9999+5", 5);
        value("9998/9999+5", 5);
        value("9999/9999+5", 6);
        Check.sameLong("length", Check.of("graph 2;edge 0 1 3;").edge(0, 4), 3333);
        Check.sameLong("length", Check.of("graph 2;edge 0 1 1;cost 5001;").edge(0, 4), 1);
        Check.sameLong("length", Check.of("graph 2;edge 0 1 1;cost 5000;").edge(0, 4), 2);
    }

    private static void limited() {
        Check.sentence("A number that is limited to a range becomes the nearer bound if it is outside of it.");
        value("0-9999", 1);
        value("0-9999*9999", 1);
        value("9999*9999", 9999);
        value("9999*9999-9999*99-9999", 100);
    }

    private static void setsAreNumbers() {
        Check.sentence("A set of vertices or edges is a number: the sum of 2^k over their indexes k.");
        MultiwayCut cut = Check.of("graph 9;terminal 0;terminal 8;edge 0 1 1;edge 1 8 2;edge 2 3 3;");
        Check.sameLong("terminals", cut.terminals(), 1 + 256);
        Check.sameLong("isolating set", cut.isolatingSet(8), 256 + 2);
        Check.sameLong("union cut", cut.unionCut(), 1);
        Check.sameLong("cut", cut.cut(), 1 + 2);
        Check.sameLong("cut cost", cut.cutCost(1 + 2 + 8), 5);
        Check.is("separates", cut.separates(2));
        Check.is("does not separate", !cut.separates(4));
        MultiwayCut full = withEdges(20);
        full.setTerminal(0, true);
        Check.sameLong("the first 8 of 20 edges", full.cut(), 255);
        full.setTerminal(7, true);
        Check.sameLong("the last one, too", full.cut(), 255 + (1 << 13) + (1 << 19));
    }

    private static void vertices() {
        Check.sentence("There are n vertices (2 to 9), numbered from 0,");
        for (int n = 2; n <= 9; n++) {
            MultiwayCut cut = Check.of("graph " + n + ";");
            Check.sameLong("the last one", cut.burden(n - 1), 0);
            Check.sameLong("the first one", cut.burden(0), 0);
            Check.noIndex("behind the last one", () -> cut.burden(cut.size()));
        }
        Check.sameLong("1", Check.load(new MultiwayCut(), "graph 1;"), MultiwayCut.OUT_OF_RANGE);
        Check.sameLong("10", Check.load(new MultiwayCut(), "graph 10;"), MultiwayCut.OUT_OF_RANGE);
    }

    private static void atMostTwentyEdges() {
        Check.sentence("at most 20 edges, with indexes from 0.");
        MultiwayCut cut = withEdges(20);
        Check.sameLong("edges", cut.edgeCount(), 20);
        Check.sameLong("the first one", cut.edge(0, 1), 1);
        Check.sameLong("the last one", cut.edge(19, 2), 1);
        Check.noIndex("behind the last one", () -> cut.edge(20, 2));
        Check.noState("a 21st edge", () -> cut.addEdge(7, 8, 1));
        Check.sameLong("still 20", cut.edgeCount(), 20);
        cut.setTerminal(0, true);
        cut.setTerminal(7, true);
        // 7 is joined with 0, 1 and 2, and 0 with all others
        Check.sameLong("cut cost of 20", cut.cutCost(128), 3);
        Check.sameLong("isolating value of 20", cut.isolatingValue(7), 3);
        Check.sameLong("union cut of 20", cut.unionCut(), 64 + (1 << 13) + (1 << 19));
        Check.sameLong("rounds of 20", cut.rounds(), 2);
        Check.sameLong("exact cost of 20", cut.exactCost(), 3);
        Check.sameLong("price with 20", cut.price(7), 3);
        Check.sameLong("distance with 20", cut.distance(8), 10000);
        Check.same("mean cost of 20", cut.meanCost(), 10.5);
        Check.sameLong("cost of 20", cut.cost(), 10);
        Check.sameLong("best move with 20", cut.bestMove(2), 10);
    }

    private static void weights() {
        Check.sentence("An edge has two different ends and a weight (1 to 99);");
        MultiwayCut cut = Check.of("graph 3;edge 0 1 1;edge 1 2 99;");
        Check.sameLong("least", cut.edge(0, 2), 1);
        Check.sameLong("greatest", cut.edge(1, 2), 99);
        Check.sameLong("0", Check.load(cut, "graph 3;edge 0 1 0;"), MultiwayCut.OUT_OF_RANGE);
        Check.sameLong("100", Check.load(cut, "graph 3;edge 0 1 100;"), MultiwayCut.OUT_OF_RANGE);
        Check.sameLong("one end twice", Check.load(cut, "graph 3;edge 1 1 5;"), MultiwayCut.DUPLICATE);
        Check.noArgument("one end twice", () -> cut.addEdge(1, 1, 5));
    }

    private static void differentEnds() {
        Check.sentence("no two edges have the same ends.");
        MultiwayCut cut = Check.of("graph 3;edge 0 1 5;edge 2 1 5;");
        Check.noState("0 1", () -> cut.addEdge(0, 1, 5));
        Check.noState("1 0", () -> cut.addEdge(1, 0, 6));
        Check.noState("1 2", () -> cut.addEdge(1, 2, 5));
        Check.noState("2 1", () -> cut.addEdge(2, 1, 5));
        Check.sameLong("2 0", cut.addEdge(2, 0, 5), 2);
        Check.noState("0 2", () -> cut.addEdge(0, 2, 5));
        cut.removeEdge(0);
        Check.sameLong("0 1 once it is gone", cut.addEdge(0, 1, 5), 2);
    }

    private static void loads() {
        Check.sentence("A vertex has a load (0 to 99).");
        MultiwayCut cut = Check.of("graph 3;load 0 0;load 1 99;");
        Check.sameLong("least", cut.burden(0), 0);
        Check.sameLong("greatest", cut.burden(1), 99);
        Check.sameLong("100", Check.load(cut, "graph 3;load 0 100;"), MultiwayCut.OUT_OF_RANGE);
    }

    private static void atMostFiveTerminals() {
        Check.sentence("At most 5 vertices are terminals.");
        MultiwayCut cut = Check.of("graph 9;terminal 0;terminal 2;terminal 4;terminal 6;terminal 8;");
        Check.sameLong("five", cut.terminals(), 1 + 4 + 16 + 64 + 256);
        Check.noState("a sixth", () -> cut.setTerminal(1, true));
        Check.sameLong("still five", cut.terminals(), 1 + 4 + 16 + 64 + 256);
        Check.sameLong("all vertices", Check.of("graph 2;terminal 0;terminal 1;").terminals(), 3);
    }

    private static void costRange() {
        Check.sentence("limited to the range 1 to 9999.");
        value("0-1", 1);
        value("0", 1);
        value("1", 1);
        value("2", 2);
        value("9998", 9998);
        value("9999", 9999);
        value("9999+1", 9999);
        value("9999*9999", 9999);
        MultiwayCut cut = Check.of("graph 3;edge 0 1 1;edge 1 2 2;cost weight*9999;");
        Check.sameLong("on the bound", cut.edge(0, 3), 9999);
        Check.sameLong("beyond it", cut.edge(1, 3), 9999);
        Check.sameLong("an added edge", cut.edge(cut.addEdge(0, 2, 99), 3), 9999);
        cut.setWeight(0, 98);
        Check.sameLong("a set weight", cut.edge(0, 3), 9999);
    }

    private static void lowAndHigh() {
        Check.sentence("low the load of its end with the smaller number, and high the load of its other end.");
        MultiwayCut cut = Check.of("graph 3;load 0 80;load 2 9;edge 2 0 3;edge 0 1 4;edge 1 2 5;cost low*100+high;");
        Check.sameLong("the greater end is first in the text", cut.edge(0, 3), 8009);
        Check.sameLong("no load of the greater end", cut.edge(1, 3), 8000);
        Check.sameLong("no load of the smaller end", cut.edge(2, 3), 9);
        cut.removeEdge(0);
        Check.sameLong("an added edge", cut.edge(cut.addEdge(2, 0, 1), 3), 8009);
    }

    private static void divisionByZero() {
        Check.sentence("Division by 0 gives 0.");
        value("5/0", 1);
        value("5/0+3", 3);
        value("0/0+3", 3);
        value("(0-5)/0+3", 3);
        value("5/(weight-10)+3", 3);
        value("5/(1/2)+3", 3);
        value("5/0*9+3", 3);
        value("9999*9999/0+3", 3);
        Check.sameLong("a load of 0", Check.of("graph 2;edge 0 1 5;cost weight/low+4;").edge(0, 3), 4);
    }

    private static void leftToRight() {
        Check.sentence("The operations of one sum or term are made from the left to the right;");
        value("100-10-5", 85);
        value("100-10+5", 95);
        value("100/7/2", 7);
        value("100/7*7", 98);
        value("7*100/7", 100);
        value("2+3*4-6/2", 11);
        value("100-(10-5)", 95);
        value("100/(7*7)", 2);
        value("((2+3))*4", 20);
    }

    private static void resultLimits() {
        Check.sentence("the result of each one is limited to the range -1000000 to 1000000.");
        value("9999*100+99-(9999*100+95)", 4);
        value("9999*100+100-(9999*100+95)", 5);
        value("9999*100+101-(9999*100+95)", 5);
        value("9999*9999-9999*100-95", 5);
        value("0-9999*100-99+9999*100+105", 6);
        value("0-9999*100-100+9999*100+105", 5);
        value("0-9999*100-101+9999*100+105", 5);
        value("0-9999*9999+9999*100+105", 5);
        value("999*1001/999", 1001);
        value("1000*1000/1000", 1000);
        value("1001*1000/1000", 1000);
        value("(0-1000)*1000/1000+1100", 100);
        value("(0-1001)*1000/1000+1100", 100);
        value("(0-999)*1000/1000+1100", 101);
        value("9999*9999*9999*9999/9999", 100);
        value("(9999*9999)*(9999*9999)/9999", 100);
        value("(9999*9999)*(0-9999*9999)/9999+150", 50);
        value("9999*9999+9999*9999-9999*100-99", 1);
    }

    private static void noCostStatement() {
        Check.sentence("Without a cost statement the cost is the weight.");
        MultiwayCut cut = Check.of("graph 3;load 0 9;load 1 9;edge 0 1 1;edge 1 2 99;");
        Check.sameLong("least", cut.edge(0, 3), 1);
        Check.sameLong("greatest", cut.edge(1, 3), 99);
        cut.setWeight(0, 50);
        Check.sameLong("set", cut.edge(0, 3), 50);
        Check.sameLong("added", cut.edge(cut.addEdge(0, 2, 98), 3), 98);
    }

    private static void cutCosts() {
        Check.sentence("the sum of the costs of all edges that have just one end in it.");
        MultiwayCut cut = Check.of("graph 3;edge 0 1 10;edge 1 2 20;edge 0 2 40;cost weight*9;");
        int[] due = {0, 450, 270, 540, 540, 270, 450, 0};
        for (int set = 0; set < 8; set++) {
            Check.sameLong("set " + set, cut.cutCost(set), due[set]);
        }
        Check.sameLong("no edge", Check.of("graph 2;").cutCost(1), 0);
        Check.sameLong("the dearest", Check.of("graph 4;edge 0 1 1;edge 0 2 1;edge 0 3 1;cost 9999;").cutCost(1), 29997);
    }

    // ---- Promises 5 to 11 ----

    private static void size() {
        Check.sentence("Returns n; 0 before the first successful load.");
        MultiwayCut cut = new MultiwayCut();
        Check.sameLong("no load", cut.size(), 0);
        Check.load(cut, "graph 5");
        Check.sameLong("no successful load", cut.size(), 0);
        Check.load(cut, "graph 5;");
        Check.sameLong("a successful load", cut.size(), 5);
        Check.load(cut, "graph 6");
        Check.sameLong("the last successful one", cut.size(), 5);
        cut.undo();
        Check.sameLong("all is undone", cut.size(), 0);
    }

    private static void edgeCount() {
        Check.sentence("Returns the number of edges.");
        Check.sameLong("no load", new MultiwayCut().edgeCount(), 0);
        Check.sameLong("no edge", Check.of("graph 9;").edgeCount(), 0);
        for (int count = 1; count <= 20; count++) {
            Check.sameLong("edges", withEdges(count).edgeCount(), count);
        }
    }

    private static void terminals() {
        Check.sentence("Returns the set of the terminals.");
        Check.sameLong("no load", new MultiwayCut().terminals(), 0);
        Check.sameLong("none", Check.of("graph 9;").terminals(), 0);
        Check.sameLong("the first", Check.of("graph 9;terminal 0;").terminals(), 1);
        Check.sameLong("the last", Check.of("graph 9;terminal 8;").terminals(), 256);
        Check.sameLong("the five last", Check.of("graph 9;terminal 8;terminal 7;terminal 6;terminal 5;terminal 4;").terminals(), 496);
    }

    private static void burden() {
        Check.sentence("`int burden(int vertex) throws IndexOutOfBoundsException` - `vertex`: a vertex Returns its load. "
            + "Throws `IndexOutOfBoundsException` if there is no such vertex");
        MultiwayCut cut = Check.of("graph 9;load 0 3;load 8 4;");
        Check.sameLong("the first", cut.burden(0), 3);
        Check.sameLong("the last", cut.burden(8), 4);
        for (int vertex : OUTSIDE) {
            Check.noIndex("vertex " + vertex, () -> cut.burden(vertex));
            Check.noIndex("vertex of no graph " + vertex, () -> new MultiwayCut().burden(vertex));
        }
        MultiwayCut two = Check.of("graph 2;load 1 4;");
        Check.sameLong("the last of two", two.burden(1), 4);
        Check.noIndex("a third one", () -> two.burden(2));
    }

    private static void edgeParts() {
        Check.sentence("0 its end with the smaller number, 1 its other end, 2 its weight, 3 its cost, 4 its length");
        MultiwayCut cut = Check.of("graph 9;edge 8 0 7;edge 1 2 9;load 0 20;load 8 3;cost weight*low+high;");
        int[] due = {0, 8, 7, 143, 69};
        for (int what = 0; what < 5; what++) {
            Check.sameLong("what " + what, cut.edge(0, what), due[what]);
        }
        Check.sameLong("the longest", cut.edge(1, 4), 10000);
        Check.sameLong("the shortest", Check.of("graph 2;edge 0 1 1;cost 9999;").edge(0, 4), 1);
    }

    private static void edgeThrows() {
        Check.sentence("if there is no such edge Throws `IllegalArgumentException` if what is not 0 to 4");
        MultiwayCut cut = Check.of("graph 3;edge 0 1 5;edge 1 2 6;");
        for (int edge : new int[] {-1, 2, 20, 31, 32, Integer.MIN_VALUE, Integer.MAX_VALUE}) {
            Check.noIndex("edge " + edge, () -> cut.edge(edge, 0));
            Check.noIndex("edge and what", () -> cut.edge(edge, 5));
        }
        for (int what : new int[] {-1, 5, Integer.MIN_VALUE, Integer.MAX_VALUE}) {
            Check.noArgument("what " + what, () -> cut.edge(1, what));
        }
        Check.noIndex("no edge", () -> Check.of("graph 2;").edge(0, 0));
        Check.noIndex("no graph", () -> new MultiwayCut().edge(0, 0));
        cut.removeEdge(0);
        Check.sameLong("the only one", cut.edge(0, 2), 6);
        Check.noIndex("the removed one", () -> cut.edge(1, 2));
    }

    private static void cutCostSets() {
        Check.sentence("a set of vertices, 0 to 2^n - 1");
        for (int n = 2; n <= 9; n++) {
            MultiwayCut cut = Check.of("graph " + n + ";edge 0 1 5;");
            int all = (1 << n) - 1;
            Check.sameLong("no vertex", cut.cutCost(0), 0);
            Check.sameLong("all vertices", cut.cutCost(all), 0);
            Check.sameLong("all but one", cut.cutCost(all - 1), 5);
            for (int set : new int[] {-1, all + 1, all + 2, Integer.MIN_VALUE, Integer.MAX_VALUE}) {
                Check.noArgument("set " + set, () -> cut.cutCost(set));
            }
        }
        MultiwayCut none = new MultiwayCut();
        Check.sameLong("no vertex of none", none.cutCost(0), 0);
        Check.noArgument("1 of none", () -> none.cutCost(1));
        Check.noArgument("-1 of none", () -> none.cutCost(-1));
    }

    private static void separates() {
        Check.sentence("Returns whether no way leads from a terminal to another one over edges that are not in the set.");
        MultiwayCut cut = Check.of("graph 4;terminal 0;terminal 3;edge 0 1 1;edge 1 2 1;edge 2 3 1;");
        for (int set = 0; set < 8; set++) {
            Check.is("a way of three edges without " + set, cut.separates(set) == (set != 0));
        }
        cut.setTerminal(3, false);
        Check.is("one terminal", cut.separates(0));
        cut.setTerminal(0, false);
        Check.is("no terminal", cut.separates(0));
        MultiwayCut chain = Check.of("graph 9;terminal 8;terminal 0;edge 7 8 1;edge 6 7 1;edge 5 6 1;edge 4 5 1;edge 3 4 1;"
            + "edge 2 3 1;edge 1 2 1;edge 0 1 1;");
        Check.is("a way over all vertices", !chain.separates(0));
        for (int edge = 0; edge < 8; edge++) {
            Check.is("the way without an edge", chain.separates(1 << edge));
        }
        Check.is("one edge between two", !Check.of("graph 2;terminal 0;terminal 1;edge 0 1 1;").separates(0));
        MultiwayCut last = Check.of("graph 9;terminal 7;terminal 8;edge 0 1 1;edge 7 8 1;");
        Check.is("the two last ones", !last.separates(1));
        Check.is("the two last ones apart", last.separates(2));
    }

    private static void separatesSets() {
        Check.sentence("a set of edges, 0 to 2^m - 1, where m is the number of edges");
        for (int count = 0; count <= 20; count++) {
            MultiwayCut cut = withEdges(count);
            int all = (1 << count) - 1;
            Check.is("no edge", cut.separates(0));
            Check.is("all edges", cut.separates(all));
            for (int set : new int[] {-1, all + 1, all + 2, Integer.MIN_VALUE, Integer.MAX_VALUE}) {
                Check.noArgument("set " + set, () -> cut.separates(set) ? 1 : 0);
            }
        }
        MultiwayCut none = new MultiwayCut();
        Check.is("no edge of none", none.separates(0));
        Check.noArgument("1 of none", () -> none.separates(1) ? 1 : 0);
    }
}
