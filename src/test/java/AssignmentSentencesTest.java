/** Sentence by sentence what names a boundary: assignments, moves, and promises 25 to 35. */
public final class AssignmentSentencesTest {
    private static final int[] OUTSIDE = {-1, 9, 10, 31, 32, 40, Integer.MIN_VALUE, Integer.MAX_VALUE};
    private static final String PAIR = "graph 4;terminal 0;terminal 3;edge 0 1 4;edge 1 2 9;edge 2 3 5;";

    public static void main(String[] args) {
        terminalsHaveThemselves();
        noneIsTheSameAsNone();
        behindALoad();
        labelOfNone();
        labelThrows();
        costs();
        cuts();
        ratioDivides();
        ratiosOfZero();
        meanOrder();
        meanShares();
        meanOfFew();
        movesOfOthers();
        bestMoveTies();
        noMove();
        bestMoveThrows();
        setLabelSets();
        setLabelThrows();
        useNearestLabels();
        useUnionLabels();
        useUnionThrows();
        useExactLabels();
        improveStops();
        improveAtMost();
        improveThrows();
        Check.end();
    }

    private static String move(MultiwayCut cut) {
        return cut.bestMove(0) + " " + cut.bestMove(1) + " " + cut.bestMove(2);
    }

    /** Eight free vertices, each of them joined with terminal 8 alone. */
    private static MultiwayCut flower() {
        return Check.of("graph 9;terminal 8;edge 0 8 1;edge 1 8 2;edge 2 8 3;edge 3 8 4;edge 4 8 5;edge 5 8 6;edge 6 8 7;edge 7 8 8;");
    }

    // ---- Assignments ----

    private static void terminalsHaveThemselves() {
        Check.sentence("An assignment gives each vertex a terminal or none; each terminal has itself.");
        MultiwayCut cut = Check.of("graph 5;terminal 0;terminal 2;terminal 4;edge 0 2 50;edge 2 4 60;edge 0 4 99;edge 1 0 1;");
        Check.sameText("a load", Check.labels(cut), "0 -1 2 -1 4");
        cut.useNearest();
        Check.sameText("nearest", Check.labels(cut), "0 0 2 -1 4");
        cut.useUnion();
        Check.sameText("union", Check.labels(cut), "0 0 2 4 4");
        cut.useExact();
        Check.sameText("exact", Check.labels(cut), "0 0 2 0 4");
        cut.improve(20);
        cut.setLabel(1, 4);
        cut.setLabel(1, -1);
        Check.sameText("moves", Check.labels(cut), "0 -1 2 0 4");
        cut.setTerminal(3, true);
        cut.setTerminal(0, false);
        Check.sameText("terminals", Check.labels(cut), "-1 -1 2 3 4");
    }

    private static void noneIsTheSameAsNone() {
        Check.sentence("(none counts as the same as none, and as another one than each terminal)");
        MultiwayCut cut = Check.of("graph 4;terminal 0;edge 1 2 5;edge 2 3 7;");
        Check.sameLong("none and none", cut.cost(), 0);
        cut.setLabel(3, 0);
        Check.sameLong("none and terminal 0", cut.cost(), 7);
        cut.setLabel(2, 0);
        Check.sameLong("one none and terminal 0", cut.cost(), 5);
        cut.setLabel(1, 0);
        Check.sameLong("all the same", cut.cost(), 0);
    }

    private static void behindALoad() {
        Check.sentence("Behind a load, it gives no vertex a terminal, except that each terminal has itself.");
        MultiwayCut cut = Check.of("graph 9;terminal 8;terminal 0;");
        Check.sameText("the first load", Check.labels(cut), "0 -1 -1 -1 -1 -1 -1 -1 8");
        cut.setLabel(1, 8);
        Check.load(cut, "graph 9;terminal 8;terminal 0;");
        Check.sameText("the same once more", Check.labels(cut), "0 -1 -1 -1 -1 -1 -1 -1 8");
        Check.load(cut, "graph 2;");
        Check.sameText("no terminal", Check.labels(cut), "-1 -1");
        Check.load(cut, "graph 2;terminal 1;terminal 0;");
        Check.sameText("all terminals", Check.labels(cut), "0 1");
    }

    // ---- Promises 25 to 29 ----

    private static void labelOfNone() {
        Check.sentence("Returns the terminal that the present assignment gives it; -1 for none.");
        MultiwayCut cut = Check.of("graph 3;terminal 0;");
        Check.sameLong("terminal 0", cut.label(0), 0);
        Check.sameLong("none", cut.label(1), -1);
        cut.setLabel(1, 0);
        Check.sameLong("terminal 0", cut.label(1), 0);
        cut.setLabel(1, -1);
        Check.sameLong("none again", cut.label(1), -1);
    }

    private static void labelThrows() {
        Check.sentence("`int label(int vertex) throws IndexOutOfBoundsException`");
        MultiwayCut cut = Check.of("graph 9;terminal 0;terminal 8;");
        Check.sameLong("the first vertex", cut.label(0), 0);
        Check.sameLong("the last vertex", cut.label(8), 8);
        for (int vertex : OUTSIDE) {
            Check.noIndex("vertex " + vertex, () -> cut.label(vertex));
        }
        Check.noIndex("no graph", () -> new MultiwayCut().label(0));
        Check.noIndex("a third vertex", () -> Check.of("graph 2;").label(2));
    }

    private static void costs() {
        Check.sentence("Returns the cost of the present assignment.");
        Check.sameLong("no graph", new MultiwayCut().cost(), 0);
        Check.sameLong("no edge", Check.of("graph 2;terminal 0;").cost(), 0);
        Check.sameLong("no terminal", Check.of("graph 2;edge 0 1 5;").cost(), 0);
        Check.sameLong("costs, not weights", Check.of("graph 2;terminal 0;edge 0 1 5;cost 9999;").cost(), 9999);
        Check.sameLong("two terminals", Check.of(PAIR).cost(), 9);
    }

    private static void cuts() {
        Check.sentence("Returns the set of the edges that are the cut of the present assignment.");
        Check.sameLong("no graph", new MultiwayCut().cut(), 0);
        Check.sameLong("no edge", Check.of("graph 2;terminal 0;").cut(), 0);
        MultiwayCut cut = flower();
        Check.sameLong("all edges", cut.cut(), 255);
        cut.setLabel(0, 8);
        Check.sameLong("without the first one", cut.cut(), 254);
        cut.setLabel(7, 8);
        Check.sameLong("without the last one", cut.cut(), 126);
        cut.useExact();
        Check.sameLong("none", cut.cut(), 0);
        Check.sameLong("the middle edge of a chain has no terminal", Check.of(PAIR).cut(), 1 + 4);
    }

    private static void ratioDivides() {
        Check.sentence("its cost divided by the cost of the exact assignment, both converted to float.");
        MultiwayCut cut = Check.of(PAIR);
        Check.same("9 / 4", cut.ratio(), 2.25);
        cut.useExact();
        Check.same("4 / 4", cut.ratio(), 1.0);
        MultiwayCut third = Check.of("graph 3;terminal 0;terminal 1;edge 0 1 3;edge 0 2 7;");
        Check.same("10 / 3 as a float", third.ratio(), 10.0f / 3.0f);
    }

    private static void ratiosOfZero() {
        Check.sentence("Returns the quotient; 1.0f if both are 0; -1.0f if only the latter is 0.");
        Check.same("no graph", new MultiwayCut().ratio(), 1.0);
        Check.same("no terminal", Check.of("graph 2;edge 0 1 5;").ratio(), 1.0);
        MultiwayCut one = Check.of("graph 2;terminal 0;edge 0 1 5;");
        Check.same("only the latter", one.ratio(), -1.0);
        one.useExact();
        Check.same("both", one.ratio(), 1.0);
        MultiwayCut two = Check.of("graph 3;terminal 0;terminal 1;edge 0 2 5;");
        Check.same("only the latter", two.ratio(), -1.0);
        two.setLabel(2, 1);
        Check.same("still only the latter", two.ratio(), -1.0);
        two.setLabel(2, 0);
        Check.same("both", two.ratio(), 1.0);
    }

    private static void meanOrder() {
        Check.sentence("It starts at 0.0f; then for each edge in the order of their indexes:");
        // Near 2^14 a float keeps ten bits behind the point: each order of adding rounds in its own way.
        MultiwayCut cut = Check.of("graph 5;terminal 0;terminal 1;terminal 2;edge 0 3 97;edge 1 3 1;edge 2 3 89;edge 3 4 1;edge 0 4 98;cost weight*99+2;");
        float due = 0.0f;
        for (int cost : new int[] {9605, 101, 8813, 101, 9704}) {
            due = due + cost * 2.0f / 3.0f;
        }
        Check.same("three terminals", cut.meanCost(), due);
        cut.removeEdge(0);
        cut.addEdge(0, 3, 97);
        due = 0.0f;
        for (int cost : new int[] {101, 8813, 101, 9704, 9605}) {
            due = due + cost * 2.0f / 3.0f;
        }
        Check.same("in another order", cut.meanCost(), due);
    }

    private static void meanShares() {
        Check.sentence("is added if both ends are terminals; otherwise, its cost * (k - 1) / k is added, in float.");
        Check.same("both ends", Check.of("graph 2;terminal 0;terminal 1;edge 0 1 7;").meanCost(), 7.0);
        Check.same("one end", Check.of("graph 3;terminal 0;terminal 1;edge 0 2 7;").meanCost(), 3.5);
        Check.same("the other end", Check.of("graph 3;terminal 1;terminal 2;edge 0 2 7;").meanCost(), 3.5);
        Check.same("no end", Check.of("graph 4;terminal 1;terminal 2;edge 0 3 7;").meanCost(), 3.5);
        String[] more = {"", "terminal 3;", "terminal 3;terminal 4;", "terminal 3;terminal 4;terminal 5;"};
        for (int k = 2; k <= 5; k++) {
            for (int weight = 1; weight <= 99; weight++) {
                MultiwayCut cut = Check.of("graph 7;terminal 1;terminal 2;" + more[k - 2] + "edge 0 6 " + weight + ";cost weight*101;");
                Check.same(k + " terminals", cut.meanCost(), weight * 101.0f * (k - 1) / k);
            }
        }
    }

    private static void meanOfFew() {
        Check.sentence("Returns the mean cost; 0.0f if there are fewer than two terminals.");
        Check.same("no graph", new MultiwayCut().meanCost(), 0.0);
        MultiwayCut cut = Check.of("graph 3;edge 0 1 7;");
        Check.same("no terminal", cut.meanCost(), 0.0);
        cut.setTerminal(0, true);
        Check.same("one terminal", cut.meanCost(), 0.0);
        cut.setTerminal(1, true);
        Check.same("two terminals", cut.meanCost(), 7.0);
        Check.same("two terminals, no edge", Check.of("graph 2;terminal 0;terminal 1;").meanCost(), 0.0);
    }

    // ---- Promise 30 ----

    private static void movesOfOthers() {
        Check.sentence("a vertex that is no terminal gets another terminal than it has (or one, if it has none) in the present assignment.");
        MultiwayCut cut = Check.of("graph 3;terminal 0;terminal 1;edge 0 1 9;edge 0 2 5;");
        Check.sameText("it has none", move(cut), "2 0 9");
        cut.setLabel(2, 0);
        Check.sameText("another one, though it is dearer", move(cut), "2 1 14");
        cut.setLabel(2, 1);
        Check.sameText("and back", move(cut), "2 0 9");
        Check.sameText("its label stays", Check.labels(cut), "0 1 1");
    }

    private static void bestMoveTies() {
        Check.sentence("The best one leads to the smallest cost; of several it is the one of the smallest vertex, of several of these the one to the smallest terminal.");
        Check.sameText("no edge", move(Check.of("graph 9;terminal 8;terminal 5;")), "0 5 0");
        Check.sameText("the smallest cost", move(flower()), "7 8 28");
        MultiwayCut cut = Check.of("graph 6;terminal 0;terminal 5;terminal 2;edge 4 5 3;edge 4 2 3;edge 3 5 3;edge 3 2 3;edge 1 0 2;");
        Check.sameText("the smallest vertex, then the smallest terminal", move(cut), "3 2 11");
        cut.setLabel(3, 2);
        Check.sameText("the next vertex", move(cut), "4 2 8");
        cut.setLabel(4, 5);
        Check.sameText("the one that is left", move(cut), "1 0 6");
    }

    private static void noMove() {
        Check.sentence("Returns this; -1 if there is no move.");
        Check.sameText("no graph", move(new MultiwayCut()), "-1 -1 -1");
        Check.sameText("no terminal", move(Check.of("graph 2;edge 0 1 5;")), "-1 -1 -1");
        Check.sameText("terminals alone", move(Check.of("graph 2;terminal 0;terminal 1;edge 0 1 5;")), "-1 -1 -1");
        MultiwayCut one = Check.of("graph 2;terminal 1;edge 0 1 5;");
        Check.sameText("one terminal", move(one), "0 1 0");
        one.setLabel(0, 1);
        Check.sameText("all have it", move(one), "-1 -1 -1");
    }

    private static void bestMoveThrows() {
        Check.sentence("Throws `IllegalArgumentException` if what is not 0 to 2");
        for (int what : new int[] {-1, 3, 4, Integer.MIN_VALUE, Integer.MAX_VALUE}) {
            Check.noArgument("what " + what, () -> Check.of(PAIR).bestMove(what));
            Check.noArgument("no graph", () -> new MultiwayCut().bestMove(what));
        }
        Check.sameText("what 0 to 2", move(Check.of(PAIR)), "2 3 13");
    }

    // ---- Promises 31 to 35 ----

    private static void setLabelSets() {
        Check.sentence("Gives a vertex a terminal in the present assignment. - `vertex`: a vertex - `terminal`: a terminal; or -1 for none");
        MultiwayCut cut = Check.of("graph 9;terminal 0;terminal 7;edge 0 8 5;edge 7 8 6;");
        Check.sameLong("the last vertex, the first terminal", cut.setLabel(8, 0), 6);
        Check.sameLong("the other terminal", cut.setLabel(8, 7), 5);
        Check.sameLong("the same once more", cut.setLabel(8, 7), 5);
        Check.sameLong("none", cut.setLabel(8, -1), 11);
        Check.sameLong("none once more", cut.setLabel(8, -1), 11);
        Check.sameText("labels", Check.labels(cut), "0 -1 -1 -1 -1 -1 -1 7 -1");
    }

    private static void setLabelThrows() {
        Check.sentence("if the second argument is neither a terminal nor -1 Throws `IllegalStateException` if the vertex is a terminal");
        MultiwayCut cut = Check.of("graph 9;terminal 0;terminal 7;");
        for (int vertex : OUTSIDE) {
            Check.noIndex("vertex " + vertex, () -> cut.setLabel(vertex, 0));
            Check.noIndex("vertex and terminal", () -> cut.setLabel(vertex, 1));
        }
        for (int terminal : new int[] {-2, 1, 8, 9, 31, 32, 39, Integer.MIN_VALUE, Integer.MAX_VALUE}) {
            Check.noArgument("terminal " + terminal, () -> cut.setLabel(1, terminal));
            Check.noArgument("a terminal gets " + terminal, () -> cut.setLabel(0, terminal));
        }
        for (int terminal : new int[] {-1, 0, 7}) {
            Check.noState("the first terminal", () -> cut.setLabel(0, terminal));
            Check.noState("the last terminal", () -> cut.setLabel(7, terminal));
        }
        Check.noIndex("no graph", () -> new MultiwayCut().setLabel(0, -1));
        Check.sameText("labels", Check.labels(cut), "0 -1 -1 -1 -1 -1 -1 7 -1");
    }

    private static void useNearestLabels() {
        Check.sentence("The present assignment gives each vertex its nearest terminal (none if there is none).");
        MultiwayCut cut = Check.of("graph 6;terminal 1;terminal 4;edge 0 1 5;edge 2 4 5;edge 3 5 5;");
        cut.setLabel(3, 1);
        Check.sameLong("cost", cut.useNearest(), 0);
        Check.sameText("labels", Check.labels(cut), "1 1 4 -1 4 -1");
        MultiwayCut none = Check.of("graph 2;edge 0 1 5;");
        Check.sameLong("no terminal", none.useNearest(), 0);
        Check.sameText("no terminal", Check.labels(none), "-1 -1");
        Check.sameLong("no graph", new MultiwayCut().useNearest(), 0);
        Check.sameLong("two terminals", Check.of(PAIR).useNearest(), 9);
    }

    private static void useUnionLabels() {
        Check.sentence("in whose isolating set it is, if this is not the dearest one; all others get the dearest one.");
        MultiwayCut one = Check.of("graph 3;terminal 1;edge 0 1 5;");
        Check.sameLong("one terminal", one.useUnion(), 0);
        Check.sameText("one terminal", Check.labels(one), "1 1 1");
        MultiwayCut pair = Check.of(PAIR);
        Check.sameLong("two terminals", pair.useUnion(), 4);
        Check.sameText("the set of 3", Check.labels(pair), "0 3 3 3");
        pair.setWeight(0, 6);
        Check.sameLong("the other edge", pair.useUnion(), 5);
        Check.sameText("3 alone", Check.labels(pair), "0 0 0 3");
        MultiwayCut loose = Check.of("graph 9;terminal 3;terminal 8;");
        Check.sameLong("no edge", loose.useUnion(), 0);
        Check.sameText("no edge", Check.labels(loose), "3 3 3 3 3 3 3 3 8");
    }

    private static void useUnionThrows() {
        Check.sentence("`int useUnion() throws IllegalStateException`");
        Check.noState("no graph", () -> new MultiwayCut().useUnion());
        MultiwayCut cut = Check.of("graph 2;edge 0 1 5;");
        Check.noState("no terminal", () -> cut.useUnion());
        cut.setTerminal(1, true);
        Check.sameLong("one terminal", cut.useUnion(), 0);
        cut.setTerminal(1, false);
        Check.noState("none any more", () -> cut.useUnion());
    }

    private static void useExactLabels() {
        Check.sentence("The present assignment becomes the exact one.");
        MultiwayCut cut = Check.of(PAIR);
        Check.sameLong("cost", cut.useExact(), 4);
        Check.sameText("labels", Check.labels(cut), "0 3 3 3");
        MultiwayCut none = Check.of("graph 3;terminal 0;edge 0 1 5;");
        none.useExact();
        none.setTerminal(0, false);
        Check.sameLong("no terminal", none.useExact(), 0);
        Check.sameText("no terminal", Check.labels(none), "-1 -1 -1");
        Check.sameLong("no graph", new MultiwayCut().useExact(), 0);
    }

    private static void improveStops() {
        Check.sentence("Makes the best move again and again, as long as it makes the cost of the present assignment smaller,");
        MultiwayCut cut = flower();
        Check.sameLong("all eight", cut.improve(20), 8);
        Check.sameLong("none", cut.improve(20), 0);
        Check.sameLong("the cost then", cut.cost(), 0);
        MultiwayCut tie = Check.of("graph 4;terminal 0;terminal 3;edge 1 0 5;edge 1 3 5;");
        Check.sameLong("only the first one makes it smaller", tie.improve(20), 1);
        Check.sameText("labels", Check.labels(tie), "0 0 -1 3");
        Check.sameLong("the best one makes it greater", Check.of(PAIR).improve(20), 0);
        Check.sameLong("no edge: the best one keeps it", Check.of("graph 9;terminal 0;").improve(20), 0);
        Check.sameLong("no move", Check.of("graph 2;terminal 0;terminal 1;edge 0 1 5;").improve(20), 0);
        Check.sameLong("no graph", new MultiwayCut().improve(1), 0);
    }

    private static void improveAtMost() {
        Check.sentence("but at most a number of times.");
        for (int most = 1; most <= 20; most++) {
            Check.sameLong("at most " + most, flower().improve(most), Math.min(most, 8));
        }
        MultiwayCut cut = flower();
        Check.sameLong("one", cut.improve(1), 1);
        Check.sameText("the best one", Check.labels(cut), "-1 -1 -1 -1 -1 -1 -1 8 8");
        Check.sameLong("six", cut.improve(6), 6);
        Check.sameText("the better ones", Check.labels(cut), "-1 8 8 8 8 8 8 8 8");
        Check.sameLong("the last one", cut.improve(2), 1);
    }

    private static void improveThrows() {
        Check.sentence("`most`: 1 to 20");
        MultiwayCut cut = flower();
        for (int most : new int[] {0, -1, 21, 22, Integer.MIN_VALUE, Integer.MAX_VALUE}) {
            Check.noArgument("most " + most, () -> cut.improve(most));
            Check.noArgument("no graph", () -> new MultiwayCut().improve(most));
        }
        Check.sameLong("no move was made", cut.cost(), 36);
        Check.sameLong("1", cut.improve(1), 1);
        Check.sameLong("20", cut.improve(20), 7);
    }
}
