/** Promises 25 to 35: the present assignment, how good it is, its best move, and its changes. */
public final class AssignmentTest {
    private static final String STAR =
        "graph 6;terminal 1;terminal 3;terminal 5;edge 0 1 2;edge 0 3 3;edge 0 5 4;edge 2 3 6;edge 2 4 5;edge 1 3 7;";

    public static void main(String[] args) {
        labels();
        ratios();
        means();
        moves();
        noMoves();
        setLabels();
        usesNearest();
        usesExact();
        usesUnion();
        improves();
        Check.end();
    }

    private static void labels() {
        MultiwayCut cut = Check.of(STAR);
        Check.sameText("25: behind a load", Check.labels(cut), "-1 1 -1 3 -1 5");
        Check.noIndex("25: negative", () -> cut.label(-1));
        Check.noIndex("25: beyond", () -> cut.label(6));
        Check.sameLong("26: none and none are the same", cut.cost(), 2 + 3 + 4 + 6 + 7);
        Check.sameLong("27: the cut", cut.cut(), 1 + 2 + 4 + 8 + 32);
        cut.setLabel(2, 3);
        Check.sameLong("26: none is not a terminal", cut.cost(), 2 + 3 + 4 + 5 + 7);
        Check.sameLong("27: the cut then", cut.cut(), 1 + 2 + 4 + 16 + 32);
        Check.noIndex("25: no vertices", () -> new MultiwayCut().label(0));
    }

    private static void ratios() {
        MultiwayCut cut = Check.of(STAR);
        Check.sameLong("20: star", cut.exactCost(), 12);
        Check.same("28: ratio", cut.ratio(), 22.0f / 12.0f);
        cut.useExact();
        Check.same("28: the exact one", cut.ratio(), 1.0f);
        Check.same("28: no vertices", new MultiwayCut().ratio(), 1.0f);
        MultiwayCut one = Check.of("graph 2;terminal 0;edge 0 1 3;");
        Check.same("28: only the exact cost is 0", one.ratio(), -1.0f);
        one.setLabel(1, 0);
        Check.same("28: both are 0", one.ratio(), 1.0f);
    }

    private static void means() {
        float due = 0.0f;
        due = due + 2.0f * 2.0f / 3.0f;
        due = due + 3.0f * 2.0f / 3.0f;
        due = due + 4.0f * 2.0f / 3.0f;
        due = due + 6.0f * 2.0f / 3.0f;
        due = due + 5.0f * 2.0f / 3.0f;
        due = due + 7.0f;
        Check.same("29: mean", Check.of(STAR).meanCost(), due);
        MultiwayCut two = Check.of("graph 4;terminal 0;terminal 3;edge 0 1 3;edge 1 2 5;edge 0 3 7;");
        Check.same("29: two terminals", two.meanCost(), 1.5f + 2.5f + 7.0f);
        Check.same("29: fewer than two terminals", Check.of("graph 2;terminal 0;edge 0 1 3;").meanCost(), 0.0f);
        Check.same("29: no terminal", Check.of("graph 2;edge 0 1 3;").meanCost(), 0.0f);
        Check.same("29: no vertices", new MultiwayCut().meanCost(), 0.0f);
        MultiwayCut great = Check.of("graph 5;terminal 0;terminal 1;terminal 2;edge 0 3 1;edge 1 3 1;edge 2 3 1;edge 3 4 1;cost 9998;");
        float part = 9998.0f * 2.0f / 3.0f;
        Check.same("29: in the order of the edges", great.meanCost(), 0.0f + part + part + part + part);
    }

    private static void moveIs(MultiwayCut cut, int vertex, int terminal, int cost) {
        long before = cut.checksum();
        Check.sameLong("30: vertex", cut.bestMove(0), vertex);
        Check.sameLong("30: terminal", cut.bestMove(1), terminal);
        Check.sameLong("30: cost", cut.bestMove(2), cost);
        Check.sameLong("30: nothing has changed", cut.checksum(), before);
    }

    private static void moves() {
        MultiwayCut cut = Check.of(STAR);
        moveIs(cut, 0, 5, 18);
        cut.setLabel(0, 5);
        moveIs(cut, 2, 3, 17);
        cut.useExact();
        moveIs(cut, 0, 3, 13);
        MultiwayCut tie = Check.of("graph 5;terminal 4;terminal 2;edge 1 2 3;edge 1 4 3;edge 3 2 3;edge 3 4 3;");
        moveIs(tie, 1, 2, 9);
        tie.setLabel(1, 2);
        moveIs(tie, 3, 2, 6);
        tie.setLabel(3, 4);
        moveIs(tie, 0, 2, 6);
        Check.noArgument("30: what is 3", () -> cut.bestMove(3));
        Check.noArgument("30: what is negative", () -> cut.bestMove(-1));
        MultiwayCut dear = Check.of("graph 3;terminal 0;terminal 1;edge 0 2 5;edge 1 2 1;");
        dear.setLabel(2, 0);
        moveIs(dear, 2, 1, 5);
    }

    private static void noMoves() {
        moveIs(new MultiwayCut(), -1, -1, -1);
        moveIs(Check.of("graph 3;edge 0 1 1;"), -1, -1, -1);
        moveIs(Check.of("graph 2;terminal 0;terminal 1;edge 0 1 1;"), -1, -1, -1);
        MultiwayCut one = Check.of("graph 2;terminal 0;edge 0 1 1;");
        moveIs(one, 1, 0, 0);
        one.setLabel(1, 0);
        moveIs(one, -1, -1, -1);
        Check.noArgument("30: no vertices", () -> new MultiwayCut().bestMove(3));
    }

    private static void setLabels() {
        MultiwayCut cut = Check.of(STAR);
        long before = cut.checksum();
        Check.noIndex("31: no such vertex", () -> cut.setLabel(6, 1));
        Check.noIndex("31: all is wrong", () -> cut.setLabel(-1, 0));
        Check.noArgument("31: no terminal", () -> cut.setLabel(0, 2));
        Check.noArgument("31: no terminal for a terminal", () -> cut.setLabel(1, 2));
        Check.noArgument("31: less than -1", () -> cut.setLabel(0, -2));
        Check.noArgument("31: 32 more than a terminal", () -> cut.setLabel(0, 33));
        Check.noState("31: a terminal", () -> cut.setLabel(1, 1));
        Check.noState("31: a terminal and none", () -> cut.setLabel(1, -1));
        Check.sameLong("31: nothing has changed", cut.checksum(), before);
        Check.sameLong("31: a terminal", cut.setLabel(4, 5), 27);
        Check.sameText("31: labels", Check.labels(cut), "-1 1 -1 3 5 5");
        Check.sameLong("31: none", cut.setLabel(4, -1), 22);
        Check.sameText("31: labels then", Check.labels(cut), "-1 1 -1 3 -1 5");
        Check.sameLong("31: changes", cut.undo(), 2);
        Check.sameText("31: labels undone", Check.labels(cut), "-1 1 -1 3 5 5");
    }

    private static void usesNearest() {
        MultiwayCut cut = Check.of("graph 6;terminal 1;terminal 3;edge 0 1 2;edge 0 3 3;edge 2 0 9;edge 4 5 1;");
        cut.setLabel(4, 3);
        Check.sameLong("32: cost", cut.useNearest(), 2);
        Check.sameText("32: labels", Check.labels(cut), "3 1 3 3 -1 -1");
        Check.sameLong("32: a change", cut.undo(), 2);
        Check.sameText("32: undone", Check.labels(cut), "-1 1 -1 3 3 -1");
        MultiwayCut none = new MultiwayCut();
        Check.sameLong("32: no vertices", none.useNearest(), 0);
        Check.sameLong("32: a change all the same", none.undo(), 0);
    }

    private static void usesUnion() {
        MultiwayCut cut = Check.of(STAR);
        Check.sameLong("15: dearest", cut.dearest(), 3);
        Check.sameLong("33: cost", cut.useUnion(), 2 + 4 + 7);
        Check.sameText("33: labels", Check.labels(cut), "3 1 3 3 3 5");
        Check.sameLong("33: a change", cut.undo(), 1);
        Check.sameText("33: undone", Check.labels(cut), "-1 1 -1 3 -1 5");
        MultiwayCut none = Check.of("graph 2;edge 0 1 5;");
        Check.noState("33: no terminal", () -> none.useUnion());
        Check.noState("33: no vertices", () -> new MultiwayCut().useUnion());
        Check.sameLong("33: no change", none.undo(), 0);
    }

    private static void usesExact() {
        MultiwayCut cut = Check.of(STAR);
        Check.sameLong("34: cost", cut.useExact(), 12);
        Check.sameText("34: labels", Check.labels(cut), "5 1 3 3 3 5");
        Check.sameLong("34: again", cut.useExact(), 12);
        Check.sameLong("34: two changes", cut.undo(), 2);
        Check.sameLong("34: one change", cut.undo(), 1);
        Check.sameText("34: undone", Check.labels(cut), "-1 1 -1 3 -1 5");
        MultiwayCut none = Check.of("graph 2;edge 0 1 5;");
        Check.sameLong("34: no terminal", none.useExact(), 0);
        Check.sameText("34: no labels", Check.labels(none), "-1 -1");
        Check.sameLong("34: no vertices", new MultiwayCut().useExact(), 0);
    }

    private static void improves() {
        MultiwayCut cut = Check.of(STAR);
        Check.noArgument("35: 0", () -> cut.improve(0));
        Check.noArgument("35: 21", () -> cut.improve(21));
        Check.noArgument("35: negative", () -> cut.improve(Integer.MIN_VALUE));
        Check.sameLong("35: one move", cut.improve(1), 1);
        Check.sameText("35: labels", Check.labels(cut), "5 1 -1 3 -1 5");
        Check.sameLong("35: all moves", cut.improve(20), 2);
        Check.sameText("35: labels then", Check.labels(cut), "5 1 3 3 3 5");
        Check.sameLong("35: no move", cut.improve(20), 0);
        Check.sameLong("35: a change all the same", cut.undo(), 3);
        Check.sameLong("35: several moves are one change", cut.undo(), 2);
        Check.sameText("35: undone", Check.labels(cut), "5 1 -1 3 -1 5");
        MultiwayCut tie = Check.of("graph 3;terminal 0;terminal 1;edge 0 2 5;edge 1 2 5;");
        Check.sameLong("35: a move into a tie", tie.improve(20), 1);
        Check.sameLong("35: no move that only keeps the cost", tie.improve(20), 0);
        Check.sameLong("35: no vertices", new MultiwayCut().improve(20), 0);
    }
}
