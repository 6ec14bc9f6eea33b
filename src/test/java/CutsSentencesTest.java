/** Sentence by sentence what names a boundary: isolating cuts, rounds, and promises 12 to 19. */
public final class CutsSentencesTest {
    private static final String CHAIN = "graph 9;terminal 0;terminal 8;edge 0 1 4;edge 1 2 4;edge 2 3 4;edge 3 4 4;"
        + "edge 4 5 4;edge 5 6 4;edge 6 7 4;edge 7 8 4;";
    private static final String STAR = "graph 6;terminal 1;terminal 2;terminal 3;terminal 4;terminal 5;"
        + "edge 0 1 3;edge 0 2 3;edge 0 3 3;edge 0 4 3;edge 0 5 3;";
    private static final int[] NO_TERMINALS = {-1, 1, 2, 9, 31, 32, 40, 64, Integer.MIN_VALUE, Integer.MAX_VALUE};

    public static void main(String[] args) {
        isolatingValues();
        isolatingSets();
        dearests();
        unionCuts();
        ascendingRounds();
        otherGroups();
        largestGroups();
        lastRound();
        groupsAreExact();
        isolatingValueThrows();
        isolatingSetThrows();
        lowerBoundRounds();
        lowerBoundHolds();
        dearestThrows();
        unionCutThrows();
        unionCosts();
        unionCostThrows();
        roundsWithoutTerminals();
        fixedInNone();
        fixedThrows();
        Check.end();
    }

    private static String fixedOf(MultiwayCut cut) {
        StringBuilder text = new StringBuilder();
        for (int vertex = 0; vertex < cut.size(); vertex++) {
            text.append(vertex == 0 ? "" : " ").append(cut.fixed(vertex));
        }
        return text.toString();
    }

    private static void isolatingValues() {
        Check.sentence("The isolating value of a terminal is the smallest cut cost of the sets of vertices that contain it and no other terminal.");
        MultiwayCut chain = Check.of(CHAIN);
        Check.sameLong("a chain from 0", chain.isolatingValue(0), 4);
        Check.sameLong("a chain from 8", chain.isolatingValue(8), 4);
        chain.setWeight(3, 1);
        Check.sameLong("through the weakest edge", chain.isolatingValue(0), 1);
        Check.sameLong("through the weakest edge", chain.isolatingValue(8), 1);
        chain.setTerminal(8, false);
        Check.sameLong("no other terminal: all vertices", chain.isolatingValue(0), 0);
        MultiwayCut both = Check.of("graph 2;terminal 0;terminal 1;edge 0 1 99;");
        Check.sameLong("no vertex is free", both.isolatingValue(0), 99);
        Check.sameLong("no vertex is free", both.isolatingValue(1), 99);
        MultiwayCut star = Check.of(STAR);
        Check.sameLong("the set of 1 alone", star.isolatingValue(1), 3);
        star.addEdge(1, 2, 50);
        Check.sameLong("an edge to another terminal", star.isolatingValue(1), 53);
        Check.sameLong("no edge", Check.of("graph 9;terminal 4;terminal 5;").isolatingValue(5), 0);
    }

    private static void isolatingSets() {
        Check.sentence("Its isolating set is the smallest one (with the fewest vertices) of these sets with this cut cost; it is a part of all of them.");
        MultiwayCut chain = Check.of(CHAIN);
        Check.sameLong("all edges are equal", chain.isolatingSet(0), 1);
        Check.sameLong("all edges are equal", chain.isolatingSet(8), 256);
        chain.setWeight(3, 1);
        Check.sameLong("up to the weakest edge", chain.isolatingSet(0), 15);
        Check.sameLong("up to the weakest edge", chain.isolatingSet(8), 511 - 15);
        chain.setWeight(5, 1);
        Check.sameLong("up to the first of two", chain.isolatingSet(0), 15);
        Check.sameLong("up to the last of two", chain.isolatingSet(8), 511 - 63);
        chain.setTerminal(8, false);
        Check.sameLong("all that it is joined with", chain.isolatingSet(0), 511);
        chain.removeEdge(7);
        Check.sameLong("not what it is not joined with", chain.isolatingSet(0), 255);
        Check.sameLong("no edge", Check.of("graph 9;terminal 4;").isolatingSet(4), 16);
        Check.sameLong("no vertex is free", Check.of("graph 2;terminal 0;terminal 1;edge 0 1 1;").isolatingSet(1), 2);
        Check.sameLong("as dear with as without vertex 1",
            Check.of("graph 3;terminal 0;terminal 2;edge 0 1 5;edge 1 2 5;").isolatingSet(2), 4);
    }

    private static void dearests() {
        Check.sentence("The dearest terminal is that with the greatest isolating value, of several the smallest one.");
        Check.sameLong("all are 0", Check.of("graph 9;terminal 8;terminal 3;terminal 5;").dearest(), 3);
        Check.sameLong("one", Check.of("graph 9;terminal 8;").dearest(), 8);
        Check.sameLong("two are always equal", Check.of(CHAIN).dearest(), 0);
        MultiwayCut star = Check.of(STAR);
        Check.sameLong("five are equal", star.dearest(), 1);
        star.setWeight(4, 4);
        Check.sameLong("the last is greater", star.dearest(), 5);
        star.setWeight(2, 4);
        Check.sameLong("two are greater", star.dearest(), 3);
        star.setWeight(0, 2);
        Check.sameLong("the first is less", star.dearest(), 3);
    }

    private static void unionCuts() {
        Check.sentence("The union cut consists of all edges that have just one end in the isolating set of some terminal other than the dearest one.");
        Check.sameLong("one terminal", Check.of("graph 3;terminal 1;edge 0 1 5;edge 1 2 5;").unionCut(), 0);
        Check.sameLong("two: only that of 8", Check.of(CHAIN).unionCut(), 128);
        Check.sameLong("five: all but that of 1", Check.of(STAR).unionCut(), 2 + 4 + 8 + 16);
        MultiwayCut both = Check.of("graph 3;terminal 0;terminal 1;terminal 2;edge 0 1 5;edge 1 2 4;edge 0 2 4;");
        Check.sameLong("0 is the dearest, its edges are in it", both.unionCut(), 7);
        Check.sameLong("no edge", Check.of("graph 9;terminal 3;terminal 4;").unionCut(), 0);
    }

    // ---- Rounds ----

    private static void ascendingRounds() {
        Check.sentence("A round goes through the terminals in ascending order;");
        Check.sameText("1 is before 3", fixedOf(Check.of("graph 4;terminal 3;terminal 1;edge 0 1 5;edge 0 3 5;")), "1 1 1 3");
        Check.sameText("0 is before 8", fixedOf(Check.of("graph 9;terminal 8;terminal 0;")), "0 0 0 0 0 0 0 0 8");
    }

    private static void otherGroups() {
        Check.sentence("consider the sets of vertices that contain its group and no vertex of another group.");
        // 1 could have 3 and 4, too, but 0 has them when its turn comes
        MultiwayCut cut = Check.of("graph 5;terminal 0;terminal 1;terminal 2;edge 0 3 3;edge 1 3 3;edge 3 4 2;edge 1 2 7;");
        Check.sameText("0 comes first", fixedOf(cut), "0 1 2 0 0");
        cut.setTerminal(0, false);
        Check.sameText("without it", fixedOf(cut), "1 1 2 1 1");
        Check.sameText("no vertex is free", fixedOf(Check.of("graph 2;terminal 0;terminal 1;edge 0 1 5;")), "0 1");
    }

    private static void largestGroups() {
        Check.sentence("Of those with the smallest cut cost, the largest one (with the most vertices; all of them are parts of it) becomes its group.");
        Check.sameText("a chain of equal edges", fixedOf(Check.of(CHAIN)), "0 0 0 0 0 0 0 0 8");
        Check.sameText("vertices without edges", fixedOf(Check.of("graph 5;terminal 2;terminal 4;edge 4 3 1;")), "2 2 2 4 4");
        Check.sameText("as dear with as without vertex 1", fixedOf(Check.of("graph 3;terminal 0;terminal 2;edge 0 1 5;edge 1 2 5;")), "0 0 2");
        Check.sameText("dearer with vertex 1", fixedOf(Check.of("graph 3;terminal 0;terminal 2;edge 0 1 5;edge 1 2 6;")), "0 2 2");
        Check.sameText("dearer for each", fixedOf(Check.of(STAR)), "-1 1 2 3 4 5");
    }

    private static void lastRound() {
        Check.sentence("Rounds are made until a round changes no group; this last round counts, too.");
        Check.sameLong("no round changes a group", Check.of(STAR).rounds(), 1);
        Check.sameLong("no vertex is free", Check.of("graph 2;terminal 0;terminal 1;").rounds(), 1);
        Check.sameLong("the first round changes one", Check.of("graph 3;terminal 0;terminal 1;").rounds(), 2);
        Check.sameLong("the first round changes the last one", Check.of("graph 3;terminal 0;terminal 1;edge 1 2 5;").rounds(), 2);
        Check.sameLong("the first round changes the first one", Check.of("graph 3;terminal 0;terminal 1;edge 0 2 5;").rounds(), 2);
        Check.sameLong("one terminal", Check.of("graph 9;terminal 4;").rounds(), 2);
        Check.sameLong("a chain", Check.of(CHAIN).rounds(), 2);
    }

    private static void groupsAreExact() {
        Check.sentence("(Some exact assignment, by its cost, gives all vertices of a group its terminal.)");
        String tie = "graph 4;terminal 0;terminal 3;edge 0 1 5;edge 1 2 5;edge 2 3 5;";
        for (String text : new String[] {CHAIN, STAR, tie, "graph 4;terminal 1;", "graph 2;terminal 0;terminal 1;edge 0 1 5;"}) {
            MultiwayCut cut = Check.of(text);
            // in the star, the middle is in no group: there all its terminals are equal
            for (int vertex = 0; vertex < cut.size(); vertex++) {
                if ((cut.terminals() >> vertex & 1) == 0) {
                    cut.setLabel(vertex, cut.fixed(vertex) < 0 ? cut.dearest() : cut.fixed(vertex));
                }
            }
            Check.sameLong("cost in " + text, cut.cost(), cut.exactCost());
        }
    }

    // ---- Promises 12 to 19 ----

    private static void isolatingValueThrows() {
        Check.sentence("Returns its isolating value. Throws `IllegalArgumentException` if this is no terminal");
        MultiwayCut cut = Check.of("graph 9;terminal 0;terminal 8;edge 0 8 7;");
        Check.sameLong("the first vertex", cut.isolatingValue(0), 7);
        Check.sameLong("the last vertex", cut.isolatingValue(8), 7);
        for (int terminal : NO_TERMINALS) {
            Check.noArgument("terminal " + terminal, () -> cut.isolatingValue(terminal));
            Check.noArgument("no graph", () -> new MultiwayCut().isolatingValue(terminal));
        }
        cut.setTerminal(8, false);
        Check.noArgument("no terminal any more", () -> cut.isolatingValue(8));
        Check.noArgument("no graph", () -> new MultiwayCut().isolatingValue(0));
    }

    private static void isolatingSetThrows() {
        Check.sentence("Returns its isolating set. Throws `IllegalArgumentException` if this is no terminal");
        MultiwayCut cut = Check.of("graph 9;terminal 0;terminal 8;edge 0 8 7;");
        Check.sameLong("the first vertex", cut.isolatingSet(0), 1);
        Check.sameLong("the last vertex", cut.isolatingSet(8), 256);
        for (int terminal : NO_TERMINALS) {
            Check.noArgument("terminal " + terminal, () -> cut.isolatingSet(terminal));
            Check.noArgument("no graph", () -> new MultiwayCut().isolatingSet(terminal));
        }
        cut.setTerminal(8, false);
        Check.noArgument("no terminal any more", () -> cut.isolatingSet(8));
        Check.noArgument("no graph", () -> new MultiwayCut().isolatingSet(0));
    }

    private static void lowerBoundRounds() {
        Check.sentence("Returns half of the sum of the isolating values of all terminals, rounded up;");
        String three = "graph 3;terminal 0;terminal 1;terminal 2;edge 0 1 ";
        Check.sameLong("of 10", Check.of(three + "5;").lowerBound(), 5);
        MultiwayCut star = Check.of("graph 4;terminal 1;terminal 2;terminal 3;edge 0 1 1;edge 0 2 1;edge 0 3 1;");
        Check.sameLong("of 3", star.lowerBound(), 2);
        Check.sameLong("of 15", Check.of(STAR).lowerBound(), 8);
        star.setWeight(1, 2);
        Check.sameLong("of 4", star.lowerBound(), 2);
        Check.sameLong("of 0", Check.of("graph 9;terminal 0;terminal 1;").lowerBound(), 0);
        Check.sameLong("one terminal", Check.of("graph 2;terminal 0;edge 0 1 9;").lowerBound(), 0);
        Check.sameLong("no terminal", Check.of("graph 2;edge 0 1 9;").lowerBound(), 0);
        Check.sameLong("no graph", new MultiwayCut().lowerBound(), 0);
        Check.sameLong("the greatest", Check.of("graph 5;terminal 0;terminal 1;terminal 2;terminal 3;terminal 4;edge 0 1 1;edge 0 2 1;"
            + "edge 0 3 1;edge 0 4 1;edge 1 2 1;edge 1 3 1;edge 1 4 1;edge 2 3 1;edge 2 4 1;edge 3 4 1;cost 9999;").lowerBound(), 99990);
    }

    private static void lowerBoundHolds() {
        Check.sentence("no assignment that gives each vertex a terminal has a smaller cost.");
        for (String text : new String[] {CHAIN, STAR, "graph 2;terminal 0;terminal 1;edge 0 1 9;", "graph 3;terminal 1;edge 0 1 9;"}) {
            MultiwayCut cut = Check.of(text);
            Check.is("not above the exact cost of " + text, cut.lowerBound() <= cut.exactCost());
            Check.is("not above the nearest of " + text, cut.lowerBound() <= cut.useNearest());
            Check.is("not above the union of " + text, cut.lowerBound() <= cut.useUnion());
        }
        Check.sameLong("two terminals", Check.of(CHAIN).lowerBound(), Check.of(CHAIN).exactCost());
    }

    private static void dearestThrows() {
        Check.sentence("Returns the dearest terminal. Throws `IllegalStateException` if there is no terminal");
        Check.noState("no graph", () -> new MultiwayCut().dearest());
        MultiwayCut cut = Check.of("graph 9;edge 0 1 5;");
        Check.noState("no terminal", () -> cut.dearest());
        cut.setTerminal(8, true);
        Check.sameLong("one terminal", cut.dearest(), 8);
        cut.setTerminal(8, false);
        Check.noState("none any more", () -> cut.dearest());
    }

    private static void unionCutThrows() {
        Check.sentence("Returns the set of the edges of the union cut. Throws `IllegalStateException` if there is no terminal");
        Check.noState("no graph", () -> new MultiwayCut().unionCut());
        MultiwayCut cut = Check.of("graph 9;edge 0 1 5;");
        Check.noState("no terminal", () -> cut.unionCut());
        cut.setTerminal(0, true);
        Check.sameLong("one terminal", cut.unionCut(), 0);
        cut.setTerminal(1, true);
        Check.sameLong("two terminals", cut.unionCut(), 1);
    }

    private static void unionCosts() {
        Check.sentence("Returns the sum of the costs of the edges of the union cut.");
        Check.sameLong("each edge once", Check.of(
            "graph 3;terminal 0;terminal 1;terminal 2;edge 0 1 5;edge 1 2 4;edge 0 2 3;").unionCost(), 12);
        Check.sameLong("costs, not weights", Check.of("graph 2;terminal 0;terminal 1;edge 0 1 5;cost 9999;").unionCost(), 9999);
        Check.sameLong("no edge", Check.of("graph 2;terminal 0;terminal 1;").unionCost(), 0);
        Check.sameLong("a star", Check.of(STAR).unionCost(), 12);
    }

    private static void unionCostThrows() {
        Check.sentence("`int unionCost() throws IllegalStateException`");
        Check.noState("no graph", () -> new MultiwayCut().unionCost());
        MultiwayCut cut = Check.of("graph 9;edge 0 1 5;");
        Check.noState("no terminal", () -> cut.unionCost());
        cut.setTerminal(0, true);
        Check.sameLong("one terminal", cut.unionCost(), 0);
        cut.setTerminal(1, true);
        Check.sameLong("two terminals", cut.unionCost(), 5);
    }

    private static void roundsWithoutTerminals() {
        Check.sentence("Returns the number of rounds; 0 without terminals.");
        Check.sameLong("no graph", new MultiwayCut().rounds(), 0);
        MultiwayCut cut = Check.of("graph 2;edge 0 1 5;");
        Check.sameLong("no terminal", cut.rounds(), 0);
        cut.setTerminal(0, true);
        Check.sameLong("one terminal", cut.rounds(), 2);
        cut.setTerminal(1, true);
        Check.sameLong("two terminals", cut.rounds(), 1);
        cut.undo();
        cut.undo();
        Check.sameLong("no terminal any more", cut.rounds(), 0);
    }

    private static void fixedInNone() {
        Check.sentence("Returns the terminal in whose group it is after the rounds; -1 if it is in none.");
        Check.sameText("no terminal", fixedOf(Check.of("graph 3;edge 0 1 5;")), "-1 -1 -1");
        Check.sameText("one terminal", fixedOf(Check.of("graph 3;terminal 1;edge 0 1 5;")), "1 1 1");
        MultiwayCut star = Check.of(STAR);
        Check.sameText("the middle of a star", fixedOf(star), "-1 1 2 3 4 5");
        star.setWeight(4, 11);
        Check.sameText("dearer still", fixedOf(star), "-1 1 2 3 4 5");
        star.setWeight(4, 12);
        Check.sameText("as dear", fixedOf(star), "5 1 2 3 4 5");
        star.setTerminal(5, false);
        Check.sameText("no terminal any more", fixedOf(star), "-1 1 2 3 4 -1");
    }

    private static void fixedThrows() {
        Check.sentence("`int fixed(int vertex) throws IndexOutOfBoundsException`");
        MultiwayCut cut = Check.of("graph 9;terminal 0;terminal 8;edge 7 8 1;");
        Check.sameLong("the first vertex", cut.fixed(0), 0);
        Check.sameLong("the last vertex", cut.fixed(8), 8);
        for (int vertex : new int[] {-1, 9, 31, 32, 40, Integer.MIN_VALUE, Integer.MAX_VALUE}) {
            Check.noIndex("vertex " + vertex, () -> cut.fixed(vertex));
            Check.noIndex("no graph", () -> new MultiwayCut().fixed(vertex));
        }
        Check.noIndex("no vertex 0", () -> new MultiwayCut().fixed(0));
        Check.noIndex("a third one", () -> Check.of("graph 2;terminal 0;").fixed(2));
    }
}
