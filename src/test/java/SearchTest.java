/** Promises 20 to 24: exactCost, exact, price, nearest, distance. */
public final class SearchTest {
    public static void main(String[] args) {
        exact();
        ties();
        prices();
        nearest();
        wrongArguments();
        Check.end();
    }

    private static String exactOf(MultiwayCut cut) {
        StringBuilder text = new StringBuilder();
        for (int vertex = 0; vertex < cut.size(); vertex++) {
            text.append(vertex == 0 ? "" : " ").append(cut.exact(vertex));
        }
        return text.toString();
    }

    private static void exact() {
        MultiwayCut chain = Check.of("graph 5;terminal 0;terminal 4;edge 0 1 3;edge 1 2 2;edge 2 3 1;edge 3 4 2;");
        Check.sameLong("20: chain", chain.exactCost(), 1);
        Check.sameText("21: chain", exactOf(chain), "0 0 0 4 4");
        MultiwayCut all = Check.of("graph 5;terminal 0;terminal 1;terminal 2;terminal 3;terminal 4;"
            + "edge 0 1 1;edge 1 2 20;edge 2 3 30;edge 3 4 40;");
        Check.sameLong("20: all are terminals", all.exactCost(), 91);
        Check.sameText("21: all are terminals", exactOf(all), "0 1 2 3 4");
        MultiwayCut readme = new MultiwayCut();
        readme.append(0x67726170, 0x6820323b, 0x65646765, 0x20302031, 0x20353b00);
        Check.sameLong("the example of README.md", readme.load(19), 1);
        readme.setTerminal(0, true);
        readme.setTerminal(1, true);
        Check.sameLong("the example of README.md", readme.exactCost(), 5);
        MultiwayCut one = Check.of("graph 3;terminal 1;edge 0 1 1;");
        Check.sameLong("20: one terminal", one.exactCost(), 0);
        Check.sameText("21: one terminal", exactOf(one), "1 1 1");
        Check.sameLong("20: one terminal then", one.setTerminal(2, true), 2);
        Check.sameText("21: two terminals", exactOf(one), "1 1 2");
        MultiwayCut none = Check.of("graph 3;edge 0 1 1;");
        Check.sameLong("20: no terminal", none.exactCost(), 0);
        Check.sameText("21: no terminal", exactOf(none), "-1 -1 -1");
        Check.sameLong("20: no vertex", new MultiwayCut().exactCost(), 0);
        MultiwayCut late = Check.of("graph 4;terminal 3;terminal 2;edge 0 3 5;edge 1 3 5;edge 0 1 1;edge 0 2 1;");
        Check.sameLong("20: the greater terminal", late.exactCost(), 1);
        Check.sameText("21: the greater terminal", exactOf(late), "3 3 2 3");
        MultiwayCut priced = Check.of("graph 3;terminal 0;terminal 2;edge 0 1 1;edge 1 2 9;cost 10-weight;");
        Check.sameLong("20: by cost, not by weight", priced.exactCost(), 1);
        Check.sameText("21: by cost, not by weight", exactOf(priced), "0 0 2");
    }

    private static void ties() {
        MultiwayCut tie = Check.of("graph 5;terminal 1;terminal 4;edge 0 1 5;edge 0 4 5;edge 2 1 3;edge 2 4 3;");
        Check.sameLong("20: tie", tie.exactCost(), 8);
        Check.sameText("21: the smaller terminal", exactOf(tie), "1 1 1 1 4");
        // 0 and 2 go together or with 1 and 4: the first vertex decides
        MultiwayCut twist = Check.of("graph 4;terminal 1;terminal 3;edge 0 2 9;edge 0 3 2;edge 2 1 2;");
        Check.sameText("21: the first vertex decides", exactOf(twist), "1 1 1 3");
        MultiwayCut loose = Check.of("graph 4;terminal 3;terminal 2;");
        Check.sameText("21: no edge", exactOf(loose), "2 2 2 3");
    }

    private static void prices() {
        MultiwayCut cut = Check.of("graph 4;terminal 0;terminal 1;terminal 2;edge 0 3 5;edge 1 3 4;edge 2 3 2;edge 0 1 1;");
        Check.sameLong("20: with all three", cut.exactCost(), 7);
        Check.sameLong("22: first", cut.price(0), 7 - 2);
        Check.sameLong("22: second", cut.price(1), 7 - 2);
        Check.sameLong("22: third", cut.price(2), 7 - 5);
        Check.sameLong("20: nothing has changed", cut.exactCost(), 7);
        Check.sameText("22: labels stay", Check.labels(cut), "0 1 2 -1");
        MultiwayCut one = Check.of("graph 2;terminal 1;edge 0 1 5;");
        Check.sameLong("22: the only one", one.price(1), 0);
        MultiwayCut two = Check.of("graph 2;terminal 0;terminal 1;edge 0 1 5;");
        Check.sameLong("22: one of two", two.price(1), 5);
    }

    private static void nearest() {
        // lengths: 0-1 5000, 1-2 3333, 2-3 2500, 3-4 2000, and 0-4 101
        MultiwayCut cut = Check.of("graph 7;terminal 0;terminal 3;edge 1 0 2;edge 2 1 3;edge 3 2 4;edge 4 3 5;edge 0 4 99;edge 5 6 1;");
        int[] goals = {0, 0, 3, 3, 0, -1, -1};
        int[] ways = {0, 5000, 2500, 0, 101, -1, -1};
        for (int vertex = 0; vertex < 7; vertex++) {
            Check.sameLong("23: nearest " + vertex, cut.nearest(vertex), goals[vertex]);
            Check.sameLong("24: distance " + vertex, cut.distance(vertex), ways[vertex]);
        }
        MultiwayCut tie = Check.of("graph 5;terminal 4;terminal 3;edge 0 4 5;edge 0 1 9;edge 1 2 9;edge 2 3 9;edge 0 3 5;");
        Check.sameLong("23: of several the smallest", tie.nearest(0), 3);
        Check.sameLong("23: also farther", tie.nearest(1), 3);
        Check.sameLong("24: over another vertex", tie.distance(1), 1111 + 1111);
        MultiwayCut far = Check.of("graph 9;terminal 0;edge 7 8 1;edge 6 7 1;edge 5 6 1;edge 4 5 1;edge 3 4 1;edge 2 3 1;edge 1 2 1;edge 0 1 1;");
        Check.sameLong("24: a long way", far.distance(8), 80000);
        Check.sameLong("23: a long way", far.nearest(8), 0);
        MultiwayCut round = Check.of("graph 4;terminal 0;edge 0 1 1;edge 0 2 9;edge 2 3 9;edge 3 1 9;");
        Check.sameLong("24: not the way with the fewest edges", round.distance(1), 3333);
        MultiwayCut none = Check.of("graph 2;edge 0 1 1;");
        Check.sameLong("23: no terminal", none.nearest(1), -1);
        Check.sameLong("24: no terminal", none.distance(1), -1);
    }

    private static void wrongArguments() {
        MultiwayCut cut = Check.of("graph 4;terminal 0;");
        for (int vertex : new int[] {-1, 4, 32, Integer.MIN_VALUE, Integer.MAX_VALUE}) {
            Check.noIndex("21: no such vertex", () -> cut.exact(vertex));
            Check.noIndex("23: no such vertex", () -> cut.nearest(vertex));
            Check.noIndex("24: no such vertex", () -> cut.distance(vertex));
            Check.noArgument("22: no terminal", () -> cut.price(vertex));
        }
        Check.noArgument("22: no terminal", () -> cut.price(1));
    }
}
