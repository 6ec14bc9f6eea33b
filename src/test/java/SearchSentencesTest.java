/** Sentence by sentence what names a boundary: the exact assignment, prices, nearest terminals, and promises 20 to 24. */
public final class SearchSentencesTest {
    private static final int[] OUTSIDE = {-1, 9, 31, 32, 40, Integer.MIN_VALUE, Integer.MAX_VALUE};

    public static void main(String[] args) {
        smallestCost();
        exactTies();
        noTerminals();
        prices();
        lengths();
        distances();
        nearestTies();
        exactCosts();
        exactWithoutTerminals();
        exactThrows();
        priceThrows();
        nearestWithoutWay();
        nearestThrows();
        distanceWithoutWay();
        distanceThrows();
        Check.end();
    }

    private static String exactOf(MultiwayCut cut) {
        StringBuilder text = new StringBuilder();
        for (int vertex = 0; vertex < cut.size(); vertex++) {
            text.append(vertex == 0 ? "" : " ").append(cut.exact(vertex));
        }
        return text.toString();
    }

    private static void smallestCost() {
        Check.sentence("The exact assignment is that with the smallest cost of those that give each vertex a terminal;");
        MultiwayCut cut = Check.of("graph 3;terminal 0;terminal 2;edge 0 1 5;edge 1 2 6;");
        Check.sameText("the greater edge stays", exactOf(cut), "0 2 2");
        Check.sameLong("its cost", cut.exactCost(), 5);
        cut.setWeight(0, 7);
        Check.sameText("the other one is greater now", exactOf(cut), "0 0 2");
        Check.sameLong("its cost", cut.exactCost(), 6);
        MultiwayCut lone = Check.of("graph 4;terminal 3;edge 0 1 9;");
        Check.sameText("a terminal also without a way to it", exactOf(lone), "3 3 3 3");
        MultiwayCut great = Check.of("graph 9;terminal 0;terminal 1;terminal 2;terminal 3;terminal 4;edge 0 5 1;edge 1 6 1;edge 2 7 1;"
            + "edge 3 8 1;edge 4 5 2;edge 0 6 2;edge 1 7 2;edge 2 8 2;edge 5 8 1;edge 6 7 1;");
        Check.sameText("five terminals, four others", exactOf(great), "0 1 2 3 4 4 0 1 2");
        Check.sameLong("its cost", great.exactCost(), 6);
    }

    private static void exactTies() {
        Check.sentence("of several, the one that gives the vertex with the smallest number, for which they differ, the smaller terminal.");
        Check.sameText("two are equal", exactOf(Check.of("graph 3;terminal 2;terminal 1;edge 0 1 5;edge 0 2 5;")), "1 1 2");
        Check.sameText("all are equal", exactOf(Check.of("graph 9;terminal 8;terminal 4;terminal 6;")), "4 4 4 4 4 4 6 4 8");
        // 0 and 3 are in one part, and it is as dear to give them to 1 as to give them to 2
        MultiwayCut pair = Check.of("graph 4;terminal 1;terminal 2;edge 0 3 9;edge 0 2 4;edge 3 1 4;");
        Check.sameText("the first vertex of a pair decides", exactOf(pair), "1 1 2 1");
        // giving 0 to 1 costs the same, then 3 has to go to 2
        MultiwayCut split = Check.of("graph 4;terminal 1;terminal 2;edge 0 1 3;edge 0 2 3;edge 3 2 1;");
        Check.sameText("each vertex by itself", exactOf(split), "1 1 2 2");
        // 0 with 1 and 3 with 2 costs 6; 0 with 2 and 3 with 1 costs 6, too
        MultiwayCut cross = Check.of("graph 4;terminal 1;terminal 2;edge 0 1 3;edge 0 2 3;edge 3 1 3;edge 3 2 3;");
        Check.sameText("the smallest vertex first", exactOf(cross), "1 1 2 1");
    }

    private static void noTerminals() {
        Check.sentence("Without terminals, it gives no vertex a terminal, and its cost is 0.");
        MultiwayCut cut = Check.of("graph 3;edge 0 1 5;edge 1 2 6;");
        Check.sameText("assignment", exactOf(cut), "-1 -1 -1");
        Check.sameLong("cost", cut.exactCost(), 0);
        cut.setTerminal(0, true);
        Check.sameText("one", exactOf(cut), "0 0 0");
        cut.setTerminal(0, false);
        Check.sameText("none again", exactOf(cut), "-1 -1 -1");
        cut.setTerminal(0, true);
        cut.setTerminal(1, true);
        Check.sameLong("cost of two", cut.exactCost(), 5);
        cut.setTerminal(0, false);
        cut.setTerminal(1, false);
        Check.sameLong("cost of none again", cut.exactCost(), 0);
    }

    private static void prices() {
        Check.sentence("The price of a terminal is the cost of the exact assignment minus what this cost would be if this vertex were no terminal.");
        MultiwayCut one = Check.of("graph 3;terminal 2;edge 0 2 5;");
        Check.sameLong("the only terminal", one.price(2), 0);
        MultiwayCut two = Check.of("graph 3;terminal 0;terminal 2;edge 0 1 5;edge 1 2 6;");
        Check.sameLong("one of two", two.price(0), 5);
        Check.sameLong("the other one", two.price(2), 5);
        MultiwayCut far = Check.of("graph 4;terminal 0;terminal 1;terminal 3;edge 0 1 5;edge 1 2 6;");
        Check.sameLong("no way leads to it", far.price(3), 0);
        MultiwayCut middle = Check.of("graph 3;terminal 0;terminal 1;terminal 2;edge 0 1 5;edge 1 2 6;");
        Check.sameLong("the middle one goes to the dearer side", middle.price(1), 11 - 5);
        long before = middle.checksum();
        Check.sameLong("an outer one", middle.price(0), 11 - 6);
        Check.sameLong("it still is a terminal", middle.checksum(), before);
        Check.sameLong("the exact cost is as before", middle.exactCost(), 11);
    }

    private static void lengths() {
        Check.sentence("The length of an edge is 10000 / its cost.");
        MultiwayCut cut = Check.of("graph 5;terminal 0;edge 0 1 1;edge 0 2 3;edge 0 3 99;edge 3 4 50;");
        int[] due = {0, 10000, 3333, 101, 301};
        for (int vertex = 0; vertex < 5; vertex++) {
            Check.sameLong("distance " + vertex, cut.distance(vertex), due[vertex]);
        }
        Check.sameLong("of the greatest cost", Check.of("graph 2;terminal 0;edge 0 1 1;cost 9999;").distance(1), 1);
        Check.sameLong("of a cost, not a weight", Check.of("graph 2;terminal 0;edge 0 1 1;cost 4;").edge(0, 4), 2500);
    }

    private static void distances() {
        Check.sentence("The distance of a vertex is the smallest sum of the lengths of the edges of a way from it to a terminal (0 for a terminal).");
        MultiwayCut cut = Check.of("graph 9;terminal 8;edge 7 8 1;edge 6 7 1;edge 5 6 1;edge 4 5 1;edge 3 4 1;edge 2 3 1;edge 1 2 1;edge 0 1 1;");
        for (int vertex = 0; vertex < 9; vertex++) {
            Check.sameLong("distance " + vertex, cut.distance(vertex), 10000 * (8 - vertex));
        }
        cut.setTerminal(0, true);
        Check.sameLong("of a terminal", cut.distance(0), 0);
        Check.sameLong("to the other end", cut.distance(1), 10000);
        MultiwayCut back = Check.of("graph 9;terminal 0;edge 0 1 1;edge 1 2 1;edge 2 3 1;edge 3 4 1;edge 4 5 1;edge 5 6 1;edge 6 7 1;edge 7 8 1;");
        Check.sameLong("the other way round", back.distance(8), 80000);
        back.addEdge(0, 8, 1);
        Check.sameLong("a shorter way", back.distance(8), 10000);
        Check.sameLong("over its end", back.distance(5), 40000);
        Check.sameLong("many short edges", Check.of("graph 4;terminal 3;edge 0 3 1;edge 0 1 9;edge 1 2 9;edge 2 3 9;").distance(0), 3333);
    }

    private static void nearestTies() {
        Check.sentence("The nearest terminal of a vertex is the one to which such a shortest way leads, of several the smallest one.");
        MultiwayCut cut = Check.of("graph 5;terminal 4;terminal 2;edge 0 4 5;edge 0 2 5;edge 0 1 5;edge 3 1 5;");
        Check.sameLong("two edges", cut.nearest(0), 2);
        Check.sameLong("farther away", cut.nearest(3), 2);
        Check.sameLong("a terminal has itself", cut.nearest(4), 4);
        cut.setWeight(0, 6);
        Check.sameLong("a shorter one", cut.nearest(0), 4);
        Check.sameLong("farther away", cut.nearest(3), 4);
        // 1250 and 1250 over two edges against 2500 over one
        MultiwayCut ways = Check.of("graph 4;terminal 1;terminal 3;edge 0 3 4;edge 0 2 8;edge 2 1 8;");
        Check.sameLong("by length, not by the number of edges", ways.nearest(0), 1);
        MultiwayCut other = Check.of("graph 4;terminal 1;terminal 3;edge 0 1 4;edge 0 2 8;edge 2 3 8;");
        Check.sameLong("also the other way round", other.nearest(0), 1);
        // the costs 6099 and 6098 have the same length
        MultiwayCut same = Check.of("graph 3;terminal 2;terminal 1;edge 0 2 99;edge 0 1 98;cost weight+6000;");
        Check.sameLong("lengths, not costs, are compared", same.nearest(0), 1);
    }

    // ---- Promises 20 to 24 ----

    private static void exactCosts() {
        Check.sentence("Returns the cost of the exact assignment.");
        Check.sameLong("no graph", new MultiwayCut().exactCost(), 0);
        Check.sameLong("no edge", Check.of("graph 9;terminal 0;terminal 1;").exactCost(), 0);
        Check.sameLong("one terminal", Check.of("graph 2;terminal 0;edge 0 1 9;").exactCost(), 0);
        Check.sameLong("two terminals", Check.of("graph 2;terminal 0;terminal 1;edge 0 1 9;").exactCost(), 9);
        Check.sameLong("the greatest cost", Check.of("graph 5;terminal 0;terminal 1;terminal 2;terminal 3;terminal 4;edge 0 1 1;edge 0 2 1;"
            + "edge 0 3 1;edge 0 4 1;edge 1 2 1;edge 1 3 1;edge 1 4 1;edge 2 3 1;edge 2 4 1;edge 3 4 1;cost 9999;").exactCost(), 99990);
    }

    private static void exactWithoutTerminals() {
        Check.sentence("Returns the terminal that the exact assignment gives it; -1 without terminals.");
        Check.sameText("none", exactOf(Check.of("graph 2;edge 0 1 5;")), "-1 -1");
        Check.sameText("one", exactOf(Check.of("graph 2;terminal 1;")), "1 1");
        Check.sameText("all", exactOf(Check.of("graph 2;terminal 1;terminal 0;edge 0 1 5;")), "0 1");
    }

    private static void exactThrows() {
        Check.sentence("`int exact(int vertex) throws IndexOutOfBoundsException`");
        MultiwayCut cut = Check.of("graph 9;terminal 8;");
        Check.sameLong("the first vertex", cut.exact(0), 8);
        Check.sameLong("the last vertex", cut.exact(8), 8);
        for (int vertex : OUTSIDE) {
            Check.noIndex("vertex " + vertex, () -> cut.exact(vertex));
        }
        Check.noIndex("no graph", () -> new MultiwayCut().exact(0));
        Check.noIndex("a third vertex", () -> Check.of("graph 2;terminal 1;").exact(2));
    }

    private static void priceThrows() {
        Check.sentence("Returns its price. Throws `IllegalArgumentException` if this is no terminal");
        MultiwayCut cut = Check.of("graph 9;terminal 0;terminal 8;edge 0 8 4;");
        Check.sameLong("the first vertex", cut.price(0), 4);
        Check.sameLong("the last vertex", cut.price(8), 4);
        for (int vertex : OUTSIDE) {
            Check.noArgument("vertex " + vertex, () -> cut.price(vertex));
        }
        Check.noArgument("a vertex that is none", () -> cut.price(1));
        cut.setTerminal(8, false);
        Check.noArgument("a vertex that is none any more", () -> cut.price(8));
        Check.noArgument("no graph", () -> new MultiwayCut().price(0));
    }

    private static void nearestWithoutWay() {
        Check.sentence("Returns its nearest terminal; -1 if no way leads to a terminal.");
        MultiwayCut cut = Check.of("graph 5;terminal 1;edge 0 1 5;edge 2 3 5;");
        int[] due = {1, 1, -1, -1, -1};
        for (int vertex = 0; vertex < 5; vertex++) {
            Check.sameLong("nearest " + vertex, cut.nearest(vertex), due[vertex]);
        }
        Check.sameLong("no terminal", Check.of("graph 2;edge 0 1 5;").nearest(0), -1);
        Check.sameLong("terminal 0", Check.of("graph 2;terminal 0;edge 0 1 5;").nearest(1), 0);
    }

    private static void nearestThrows() {
        Check.sentence("`int nearest(int vertex) throws IndexOutOfBoundsException`");
        MultiwayCut cut = Check.of("graph 9;terminal 8;edge 0 8 5;");
        Check.sameLong("the first vertex", cut.nearest(0), 8);
        Check.sameLong("the last vertex", cut.nearest(8), 8);
        for (int vertex : OUTSIDE) {
            Check.noIndex("vertex " + vertex, () -> cut.nearest(vertex));
        }
        Check.noIndex("no graph", () -> new MultiwayCut().nearest(0));
        Check.noIndex("a third vertex", () -> Check.of("graph 2;terminal 1;").nearest(2));
    }

    private static void distanceWithoutWay() {
        Check.sentence("Returns its distance; -1 if no way leads to a terminal.");
        MultiwayCut cut = Check.of("graph 5;terminal 1;edge 0 1 5;edge 2 3 5;");
        int[] due = {2000, 0, -1, -1, -1};
        for (int vertex = 0; vertex < 5; vertex++) {
            Check.sameLong("distance " + vertex, cut.distance(vertex), due[vertex]);
        }
        Check.sameLong("no terminal", Check.of("graph 2;edge 0 1 5;").distance(0), -1);
    }

    private static void distanceThrows() {
        Check.sentence("`int distance(int vertex) throws IndexOutOfBoundsException`");
        MultiwayCut cut = Check.of("graph 9;terminal 8;edge 0 8 5;");
        Check.sameLong("the first vertex", cut.distance(0), 2000);
        Check.sameLong("the last vertex", cut.distance(8), 0);
        for (int vertex : OUTSIDE) {
            Check.noIndex("vertex " + vertex, () -> cut.distance(vertex));
        }
        Check.noIndex("no graph", () -> new MultiwayCut().distance(0));
        Check.noIndex("a third vertex", () -> Check.of("graph 2;terminal 1;").distance(2));
    }
}
