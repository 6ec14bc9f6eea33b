/** Promises 12 to 19: isolating cuts, the lower bound, the union cut, and the rounds. */
public final class CutsTest {
    private static final String CHAIN = "graph 5;terminal 0;terminal 4;edge 0 1 3;edge 1 2 1;edge 2 3 1;edge 3 4 2;";

    public static void main(String[] args) {
        isolating();
        bounds();
        unions();
        noTerminal();
        rounds();
        Check.end();
    }

    private static void isolating() {
        MultiwayCut cut = Check.of(CHAIN);
        Check.sameLong("12: chain", cut.isolatingValue(0), 1);
        Check.sameLong("13: chain, the smallest set", cut.isolatingSet(0), 3);
        Check.sameLong("12: other end", cut.isolatingValue(4), 1);
        Check.sameLong("13: other end, the smallest set", cut.isolatingSet(4), 24);
        Check.noArgument("12: no terminal", () -> cut.isolatingValue(1));
        Check.noArgument("13: no terminal", () -> cut.isolatingSet(1));
        Check.noArgument("12: no vertex", () -> cut.isolatingValue(5));
        Check.noArgument("13: no vertex", () -> cut.isolatingSet(-1));
        Check.noArgument("12: 32 more than a terminal", () -> cut.isolatingValue(32));
        Check.noArgument("13: 32 more than a terminal", () -> cut.isolatingSet(36));
        MultiwayCut one = Check.of("graph 4;terminal 1;edge 0 1 5;edge 2 3 7;");
        Check.sameLong("12: alone", one.isolatingValue(1), 0);
        Check.sameLong("13: alone, without the part that no way leads to", one.isolatingSet(1), 3);
        MultiwayCut both = Check.of("graph 2;terminal 0;terminal 1;edge 0 1 9;");
        Check.sameLong("12: no other vertex", both.isolatingValue(1), 9);
        Check.sameLong("13: no other vertex", both.isolatingSet(1), 2);
        MultiwayCut priced = Check.of("graph 3;terminal 0;terminal 2;edge 0 1 1;edge 1 2 9;load 1 9;cost 10-weight;");
        Check.sameLong("12: by cost, not by weight", priced.isolatingValue(0), 1);
        Check.sameLong("13: by cost, not by weight", priced.isolatingSet(0), 3);
    }

    private static void bounds() {
        MultiwayCut star = Check.of("graph 4;terminal 0;terminal 1;terminal 2;edge 0 3 1;edge 1 3 1;edge 2 3 1;");
        Check.sameLong("14: rounded up", star.lowerBound(), 2);
        Check.sameLong("14: never more than the exact cost", star.exactCost(), 2);
        Check.sameLong("14: even", Check.of(CHAIN).lowerBound(), 1);
        Check.sameLong("14: one terminal", Check.of("graph 2;terminal 0;edge 0 1 5;").lowerBound(), 0);
        Check.sameLong("14: no terminal", Check.of("graph 2;edge 0 1 5;").lowerBound(), 0);
        Check.sameLong("14: no vertex", new MultiwayCut().lowerBound(), 0);
    }

    private static void unions() {
        // a star whose terminals 1, 3 and 4 have the values 6, 8 and 8
        MultiwayCut cut = Check.of("graph 5;terminal 4;terminal 3;terminal 1;edge 0 1 6;edge 0 3 8;edge 0 4 8;edge 0 2 1;");
        Check.sameLong("15: the smallest of the dearest", cut.dearest(), 3);
        Check.sameLong("16: without the dearest", cut.unionCut(), 1 + 4);
        Check.sameLong("17: its cost", cut.unionCost(), 14);
        Check.sameLong("33: by the union", cut.useUnion(), 14);
        Check.sameText("33: labels", Check.labels(cut), "3 1 3 3 4");
        MultiwayCut pair = Check.of("graph 3;terminal 0;terminal 1;terminal 2;edge 0 1 5;edge 1 2 4;");
        Check.sameLong("15: the greatest", pair.dearest(), 1);
        Check.sameLong("16: all", pair.unionCut(), 3);
        Check.sameLong("17: an edge of two sets counts once", Check.of(
            "graph 3;terminal 0;terminal 1;terminal 2;edge 0 1 5;edge 1 2 4;edge 0 2 4;").unionCost(), 13);
        MultiwayCut one = Check.of("graph 3;terminal 2;edge 0 1 5;");
        Check.sameLong("15: the only one", one.dearest(), 2);
        Check.sameLong("16: nothing", one.unionCut(), 0);
        Check.sameLong("17: nothing", one.unionCost(), 0);
        Check.sameLong("33: one terminal", one.useUnion(), 0);
        Check.sameText("33: labels", Check.labels(one), "2 2 2");
    }

    private static void noTerminal() {
        for (MultiwayCut cut : new MultiwayCut[] {new MultiwayCut(), Check.of("graph 3;edge 0 1 5;")}) {
            Check.noState("15: no terminal", () -> cut.dearest());
            Check.noState("16: no terminal", () -> cut.unionCut());
            Check.noState("17: no terminal", () -> cut.unionCost());
            Check.sameLong("18: no terminal", cut.rounds(), 0);
            Check.noIndex("19: no such vertex", () -> cut.fixed(3));
            Check.noIndex("19: negative", () -> cut.fixed(-1));
        }
        Check.sameLong("19: no terminal", Check.of("graph 3;").fixed(2), -1);
    }

    private static void fixedAre(MultiwayCut cut, String due) {
        StringBuilder text = new StringBuilder();
        for (int vertex = 0; vertex < cut.size(); vertex++) {
            text.append(vertex == 0 ? "" : " ").append(cut.fixed(vertex));
        }
        Check.sameText("19: fixed", text.toString(), due);
    }

    private static void rounds() {
        MultiwayCut chain = Check.of(CHAIN);
        Check.sameLong("18: chain", chain.rounds(), 2);
        fixedAre(chain, "0 0 0 4 4");
        MultiwayCut star = Check.of("graph 4;terminal 0;terminal 1;terminal 2;edge 0 3 1;edge 1 3 1;edge 2 3 1;");
        Check.sameLong("18: nothing to fix", star.rounds(), 1);
        fixedAre(star, "0 1 2 -1");
        MultiwayCut one = Check.of("graph 4;terminal 1;edge 0 1 5;");
        Check.sameLong("18: one terminal takes all", one.rounds(), 2);
        fixedAre(one, "1 1 1 1");
        MultiwayCut both = Check.of("graph 2;terminal 0;terminal 1;edge 0 1 9;");
        Check.sameLong("18: nothing is free", both.rounds(), 1);
        fixedAre(both, "0 1");
        MultiwayCut tie = Check.of("graph 3;terminal 2;terminal 1;edge 0 1 4;edge 0 2 4;");
        Check.sameLong("18: a tie", tie.rounds(), 2);
        fixedAre(tie, "1 1 2");
        // Terminal 0 could have 3 and 1 could have it, too: the first one in the round gets it.
        MultiwayCut late = Check.of("graph 5;terminal 0;terminal 1;terminal 2;edge 0 3 3;edge 3 4 2;edge 1 3 2;edge 2 4 9;");
        Check.sameLong("18: in ascending order", late.rounds(), 2);
        fixedAre(late, "0 1 2 -1 2");
        late.setTerminal(0, false);
        fixedAre(late, "1 1 2 1 2");
        fixedAre(Check.of(CHAIN), "0 0 0 4 4");
    }
}
