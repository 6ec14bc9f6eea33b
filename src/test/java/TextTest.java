/** Promises 1 to 4: a new object, append, load, errorOffset; and the setup text. */
public final class TextTest {
    private static final int FULL_LENGTH = 700;

    public static void main(String[] args) {
        newObject();
        appends();
        loadLengths();
        goodTexts();
        syntaxErrors();
        rangeErrors();
        duplicates();
        tooMany();
        tooDeep();
        errorsChangeNothing();
        severalLoads();
        costValues();
        Check.end();
    }

    private static void newObject() {
        MultiwayCut cut = new MultiwayCut();
        Check.sameLong("1: size", cut.size(), 0);
        Check.sameLong("1: edges", cut.edgeCount(), 0);
        Check.sameLong("1: terminals", cut.terminals(), 0);
        Check.sameLong("1: error offset", cut.errorOffset(), -1);
        Check.sameLong("1: checksum", cut.checksum(), 0);
        Check.sameLong("1: lowerBound", cut.lowerBound(), 0);
        Check.sameLong("1: rounds", cut.rounds(), 0);
        Check.sameLong("1: exactCost", cut.exactCost(), 0);
        Check.sameLong("1: cost", cut.cost(), 0);
        Check.sameLong("1: cut", cut.cut(), 0);
        Check.sameLong("1: cutCost", cut.cutCost(0), 0);
        Check.noArgument("1: cutCost of one vertex", () -> cut.cutCost(1));
        Check.noArgument("1: the buffer is empty", () -> cut.load(1));
        Check.sameLong("1: undo", cut.undo(), -1);
    }

    private static void appends() {
        MultiwayCut cut = new MultiwayCut();
        for (int length = 20; length <= FULL_LENGTH; length += 20) {
            Check.sameLong("2: append", cut.append(0x20202020, 0x20202020, 0x20202020, 0x20202020, 0x20202020), length);
        }
        Check.sameLong("2: append to the full buffer", cut.append(0, 0, 0, 0, 0), -1);
        Check.sameLong("2: append to it again", cut.append(0, 0, 0, 0, 0), -1);
        Check.noArgument("3: more than the buffer", () -> cut.load(FULL_LENGTH + 1));
        Check.sameLong("3: spaces alone", cut.load(FULL_LENGTH), MultiwayCut.SYNTAX_ERROR);
        Check.sameLong("4: they end too early", cut.errorOffset(), FULL_LENGTH);
        Check.sameLong("2: append after load", cut.append(0, 0, 0, 0, 0), 20);
        MultiwayCut other = new MultiwayCut();
        // "grap" "h  9" ";   " and bytes whose first one is not in a text at all
        other.append(0x67726170, 0x68202039, 0x3b202020, 0x80818283, 0xff000000);
        Check.sameLong("2: the most significant byte is first", other.load(12), 0);
        Check.sameLong("2: what was read", other.size(), 9);
        other.append(0x67726170, 0x68202039, 0x3b202020, 0x80818283, 0xff000000);
        Check.sameLong("2: a high byte", other.load(13), MultiwayCut.SYNTAX_ERROR);
        Check.sameLong("2: where it is", other.errorOffset(), 12);
    }

    private static void loadLengths() {
        MultiwayCut cut = new MultiwayCut();
        Check.put(cut, "graph 3;edge 0 1 5;");
        Check.noArgument("3: negative length", () -> cut.load(-1));
        Check.noArgument("3: least int", () -> cut.load(Integer.MIN_VALUE));
        Check.noArgument("3: greater length", () -> cut.load(21));
        Check.sameLong("4: these calls threw", cut.errorOffset(), -1);
        Check.sameLong("3: the buffer was kept", cut.load(19), 1);
        Check.noArgument("3: the buffer is empty afterwards", () -> cut.load(1));
        Check.sameLong("3: no text", cut.load(0), MultiwayCut.SYNTAX_ERROR);
        Check.sameLong("4: no text", cut.errorOffset(), 0);
        Check.noArgument("3: throws", () -> cut.load(1));
        Check.sameLong("4: a call that threw does not count", cut.errorOffset(), 0);
        Check.sameLong("3: a part of the buffer", loadPart(cut, "graph 4;edge 0 1 5;", 8), 0);
        Check.sameLong("4: no error", cut.errorOffset(), -1);
        Check.sameLong("3: replaced", cut.size(), 4);
    }

    private static int loadPart(MultiwayCut cut, String text, int length) {
        Check.put(cut, text);
        return cut.load(length);
    }

    private static void good(String text, int edges) {
        MultiwayCut cut = new MultiwayCut();
        Check.sameLong("3: " + text, Check.load(cut, text), edges);
        Check.sameLong("4: " + text, cut.errorOffset(), -1);
    }

    private static void bad(String text, int code, int offset) {
        MultiwayCut cut = new MultiwayCut();
        Check.sameLong("3: " + text, Check.load(cut, text), code);
        Check.sameLong("4: " + text, cut.errorOffset(), offset);
    }

    private static void goodTexts() {
        good("graph 2;", 0);
        good("graph9;", 0);
        good("  graph  2  ;  ", 0);
        good("graph 000000000000000000000000000002;", 0);
        good("graph 3;terminal2;load1 99;edge 2 0 99;", 1);
        good("graph 3;load 0 0;load 1 99;load 2 007;", 0);
        good("graph 3;cost weight;", 0);
        good("graph 3;cost((((weight+low*high-9999/0))));", 0);
        good("graph 3;cost (1)+((2))*(((3)))-((((4))));", 0);
        good("graph 5;terminal 4;terminal 3;terminal 2;terminal 1;terminal 0;", 0);
        good(twentyEdges(), 20);
    }

    private static String twentyEdges() {
        StringBuilder text = new StringBuilder("graph 9;");
        int count = 0;
        for (int a = 0; a < 9; a++) {
            for (int b = a + 1; b < 9 && count < 20; b++) {
                text.append("edge ").append(b).append(' ').append(a).append(" 1;");
                count++;
            }
        }
        return text.toString();
    }

    private static void syntaxErrors() {
        int code = MultiwayCut.SYNTAX_ERROR;
        bad("", code, 0);
        bad("   ", code, 3);
        bad("graph", code, 5);
        bad("graph 2", code, 7);
        bad("graph 2  ", code, 9);
        bad("Graph 2;", code, 0);
        bad(" graphs 2;", code, 1);
        bad("grap 2;", code, 0);
        bad("graph ;", code, 6);
        bad("graph -2;", code, 6);
        bad("graph 2 2;", code, 8);
        bad("graph 2x;", code, 7);
        bad("graph 2;;", code, 8);
        bad("graph 2; graph 2;", code, 9);
        bad("graph 2;terminals 1;", code, 8);
        bad("draph 2;", code, 0);
        bad("graph 2;germinal 1;", code, 8);
        bad("graph 2;adge 0 1 1;", code, 8);
        bad("graph 2;edgez 0 1 1;", code, 8);
        bad("graph 2;goad 0 1;", code, 8);
        bad("graph 2;post 1;", code, 8);
        bad("graph 2;cost height;", code, 13);
        bad("graph 2;cost row;", code, 13);
        bad("graph 2;cost sigh;", code, 13);
        bad("graph 2;terminal;", code, 16);
        bad("graph 2;terminal 1", code, 18);
        bad("graph 2;terminal 1 1;", code, 19);
        bad("graph 2;edge 0 1;", code, 16);
        bad("graph 2;edge 01;", code, 15);
        bad("graph 2;edge 0 1 1 1;", code, 19);
        bad("graph 2;edge 0,1 1;", code, 14);
        bad("graph 2;load 0;", code, 14);
        bad("graph 2;load 0 0", code, 16);
        bad("graph 2;cost;", code, 12);
        bad("graph 2;cost 1 2;", code, 15);
        bad("graph 2;cost 1+;", code, 15);
        bad("graph 2;cost -1;", code, 13);
        bad("graph 2;cost 1*/2;", code, 15);
        bad("graph 2;cost ();", code, 14);
        bad("graph 2;cost (1;", code, 15);
        bad("graph 2;cost 1);", code, 14);
        bad("graph 2;cost weigh;", code, 13);
        bad("graph 2;cost weightlow;", code, 13);
        bad("graph 2;cost lowhigh;", code, 13);
        bad("graph 2;cost weight(1);", code, 19);
        bad("graph 2;cost 1; cost 2;", code, 16);
        bad("graph 2;\tedge 0 1 1;", code, 8);
        bad("graph 2;edge 0 1 1;\n", code, 19);
        bad("graph 2;\u0000", code, 8);
    }

    private static void rangeErrors() {
        int code = MultiwayCut.OUT_OF_RANGE;
        bad("graph 1;", code, 6);
        bad("graph 0;", code, 6);
        bad("graph 10;", code, 6);
        bad("graph 4294967298;", code, 6);
        bad("graph 18446744073709551618;", code, 6);
        bad("graph 1", code, 6);
        bad("graph 3;terminal 3;", code, 17);
        bad("graph 3;terminal 003x", code, 17);
        bad("graph 3;edge 3 3 1;", code, 13);
        bad("graph 3;edge 0 3 1;", code, 15);
        bad("graph 3;edge 0 1 0;", code, 17);
        bad("graph 3;edge 0 1 100;", code, 17);
        bad("graph 3;load 3 0;", code, 13);
        bad("graph 3;load 0 100;", code, 15);
        bad("graph 3;cost 1+10000;", code, 15);
        bad("graph 3;cost 42949672960;", code, 13);
    }

    private static void duplicates() {
        int code = MultiwayCut.DUPLICATE;
        bad("graph 3;terminal 1;terminal 1;", code, 28);
        bad("graph 3;terminal 1;terminal 01", code, 28);
        bad("graph 3;edge 1 1 1;", code, 15);
        bad("graph 3;edge 1 1 0;", code, 15);
        bad("graph 3;edge 0 1 1;edge 0 1 1;", code, 26);
        bad("graph 3;edge 0 1 1;edge 1 0 1;", code, 26);
        bad("graph 3;load 0 0;load 0 0;", code, 22);
        bad("graph 3;load 2 5;load 2 999;", code, 22);
    }

    private static void tooMany() {
        int code = MultiwayCut.TOO_MANY;
        String five = "graph 9;terminal 0;terminal 1;terminal 2;terminal 3;terminal 4;";
        bad(five + "terminal 5;", code, five.length());
        bad(five + "  terminal 4;", code, five.length() + 2);
        bad(five + "terminal", code, five.length());
        bad(five + "terminal 99;", code, five.length());
        bad(five + "terminals 5;", MultiwayCut.SYNTAX_ERROR, five.length());
        bad(twentyEdges() + "edge 7 8 1;", code, twentyEdges().length());
        bad(twentyEdges() + "edge 0 0 0;", code, twentyEdges().length());
    }

    private static void tooDeep() {
        int code = MultiwayCut.TOO_DEEP;
        bad("graph 2;cost (((((1)))));", code, 17);
        bad("graph 2;cost 1+((((1*(", code, 21);
        bad("graph 2;cost ((((1(", MultiwayCut.SYNTAX_ERROR, 18);
        good("graph 2;cost ((((1))))*((((2))));", 0);
    }

    private static void errorsChangeNothing() {
        MultiwayCut cut = Check.of("graph 3;terminal 0;terminal 2;edge 0 1 5;edge 1 2 7;load 1 4;cost weight+low;");
        long before = cut.checksum();
        Check.sameLong("3: error", Check.load(cut, "graph 2;terminal 1;edge 0 1 9;cost 5;load 0 7;x"), -2);
        Check.sameLong("3: unchanged", cut.checksum(), before);
        Check.sameLong("3: load unchanged", cut.burden(1), 4);
        Check.sameLong("3: cost unchanged", cut.edge(1, 3), 11);
        Check.sameLong("3: weight unchanged", cut.setWeight(1, 8), 7);
        Check.sameLong("3: formula unchanged", cut.edge(1, 3), 12);
        Check.noArgument("3: the buffer is empty", () -> cut.load(1));
        Check.sameLong("3: only two changes", cut.undo(), 1);
        Check.sameLong("3: success", Check.load(cut, "graph 2;edge 0 1 9;"), 1);
        Check.sameLong("3: all is replaced", cut.terminals(), 0);
        Check.sameLong("3: loads are replaced", cut.burden(1), 0);
        Check.sameLong("3: the formula is replaced", cut.edge(0, 3), 9);
    }

    private static void severalLoads() {
        MultiwayCut cut = Check.of("graph 3;terminal 0;edge 0 1 5;load 0 3;load 1 4;cost weight*2;");
        Check.sameLong("3: the same again", Check.load(cut, "graph 3;terminal 0;edge 0 1 5;load 1 6;cost weight*3;"), 1);
        Check.sameLong("3: a new cost statement", cut.edge(0, 3), 15);
        Check.sameLong("3: a new load", cut.burden(1), 6);
        Check.sameLong("3: no load any more", cut.burden(0), 0);
        Check.sameLong("3: without a cost statement", Check.load(cut, "graph 2;edge 1 0 7;"), 1);
        Check.sameLong("3: the cost is the weight", cut.edge(0, 3), 7);
        Check.sameLong("3: no terminal any more", cut.terminals(), 0);
        Check.sameText("3: labels", Check.labels(cut), "-1 -1");
    }

    private static void value(String formula, int due) {
        MultiwayCut cut = Check.of("graph 4;edge 3 1 10;load 1 7;load 3 50;cost " + formula + ";");
        Check.sameLong("9: cost " + formula, cut.edge(0, 3), due);
    }

    private static void costValues() {
        value("weight", 10);
        value("low", 7);
        value("high", 50);
        value("0", 1);
        value("low-high", 1);
        value("9999+1", 9999);
        value("100-10-5", 85);
        value("100-(10-5)", 95);
        value("2+3*4", 14);
        value("(2+3)*4", 20);
        value("100/7/2", 7);
        value("100/7*7", 98);
        value("7*100/7", 100);
        value("10/(weight-10)+3", 3);
        value("(0-7)/2+10", 7);
        value("9999*9999-9999*100", 100);
        value("9999*9999*9999/9999", 100);
        value("0-9999*9999-9999*100+9999*9999+5", 5);
        value("(0-9999)*9999*9999/9999+200", 100);
        value("9999*9999+9999*100-9999*100", 100);
        value("weight+low*high-(weight-low)*2", 354);
        value("1+(2*(3+(4*(5+6))))", 95);
        value("1+2*(1+2*(1+2*(1+2*(1+2*3))))", 127);
    }
}
