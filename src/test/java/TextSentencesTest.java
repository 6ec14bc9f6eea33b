/** Sentence by sentence what names a boundary: promises 1 to 4, the setup text, its errors, the constants. */
public final class TextSentencesTest {
    private static final int SYNTAX = MultiwayCut.SYNTAX_ERROR;
    private static final int RANGE = MultiwayCut.OUT_OF_RANGE;
    private static final int TWICE = MultiwayCut.DUPLICATE;
    private static final int MANY = MultiwayCut.TOO_MANY;
    private static final int DEEP = MultiwayCut.TOO_DEEP;
    private static final int BLANKS = 0x20202020;
    private static final String FIVE = "graph 9;terminal 4;terminal 8;terminal 0;terminal 6;terminal 2;";

    public static void main(String[] args) {
        constants();
        newObject();
        appendOrder();
        appendLength();
        loadFirstBytes();
        loadReplacesAll();
        loadEmptiesBuffer();
        loadErrorKeepsData();
        loadEmptyText();
        loadAnswers();
        loadThrows();
        errorOffsets();
        noErrorOffset();
        fullBuffer();
        grammar();
        runs();
        longestRuns();
        spaces();
        otherBytes();
        numberOfGraph();
        numberOfTerminal();
        numbersOfEdge();
        indexesOfEdges();
        numbersOfLoad();
        numberAsFactor();
        nesting();
        costOnce();
        firstError();
        sameOffset();
        errorsOfSyntax();
        endOfText();
        secondCost();
        errorsOfRange();
        duplicates();
        tooMany();
        tooDeep();
        Check.end();
    }

    private static String repeat(String part, int times) {
        StringBuilder text = new StringBuilder();
        for (int k = 0; k < times; k++) {
            text.append(part);
        }
        return text.toString();
    }

    /** Edges 0-1, 0-2 and so on, with the weights 1, 2 and so on. */
    private static String edges(int count) {
        StringBuilder text = new StringBuilder();
        int weight = 0;
        for (int a = 0; a < 9; a++) {
            for (int b = a + 1; b < 9 && weight < count; b++) {
                weight++;
                text.append("edge ").append(a).append(' ').append(b).append(' ').append(weight).append(';');
            }
        }
        return text.toString();
    }

    private static void good(String text, int edges) {
        MultiwayCut cut = new MultiwayCut();
        Check.sameLong(text, Check.load(cut, text), edges);
        Check.sameLong("no error in " + text, cut.errorOffset(), -1);
    }

    private static void bad(String text, int code, int offset) {
        MultiwayCut cut = new MultiwayCut();
        Check.sameLong(text, Check.load(cut, text), code);
        Check.sameLong("offset in " + text, cut.errorOffset(), offset);
        Check.sameLong("nothing is there after " + text, cut.size(), 0);
    }

    private static void constants() {
        Check.sentence("`SYNTAX_ERROR = -2`");
        Check.sameLong("SYNTAX_ERROR", MultiwayCut.SYNTAX_ERROR, -2);
        Check.sentence("`OUT_OF_RANGE = -3`");
        Check.sameLong("OUT_OF_RANGE", MultiwayCut.OUT_OF_RANGE, -3);
        Check.sentence("`DUPLICATE = -4`");
        Check.sameLong("DUPLICATE", MultiwayCut.DUPLICATE, -4);
        Check.sentence("`TOO_MANY = -5`");
        Check.sameLong("TOO_MANY", MultiwayCut.TOO_MANY, -5);
        Check.sentence("`TOO_DEEP = -6`");
        Check.sameLong("TOO_DEEP", MultiwayCut.TOO_DEEP, -6);
    }

    // ---- Promises 1 to 4 ----

    private static void newObject() {
        Check.sentence("Creates an object without vertices and with an empty input buffer.");
        MultiwayCut cut = new MultiwayCut();
        Check.sameLong("size", cut.size(), 0);
        Check.noIndex("vertex 0", () -> cut.burden(0));
        Check.noArgument("load of a byte", () -> cut.load(1));
        Check.sameLong("the first append", cut.append(0, 0, 0, 0, 0), 20);
        Check.sameLong("another object's first append", new MultiwayCut().append(0, 0, 0, 0, 0), 20);
    }

    private static void appendOrder() {
        Check.sentence("the 4 bytes of each argument, the most significant byte first.");
        MultiwayCut cut = new MultiwayCut();
        cut.append(0x67726170, 0x6820323b, 0x65646765, 0x20302031, 0x2039393b);
        Check.sameLong("graph 2;edge 0 1 99;", cut.load(20), 1);
        Check.sameLong("weight", cut.edge(0, 2), 99);
        // A sign bit in any place of a word is a byte of its own and no other.
        for (int shift = 0; shift < 32; shift += 8) {
            cut.append(BLANKS, BLANKS ^ 0x20 << shift ^ 0x80 << shift, 0, 0, 0);
            Check.sameLong("byte 128 alone", cut.load(8), SYNTAX);
            Check.sameLong("its place", cut.errorOffset(), 7 - shift / 8);
        }
        cut.append(-1, -1, -1, -1, -1);
        Check.sameLong("bytes 255", cut.load(20), SYNTAX);
        Check.sameLong("the first of them", cut.errorOffset(), 0);
    }

    private static void appendLength() {
        Check.sentence("Returns the new length of the buffer; -1 if it would exceed 700 bytes, and the buffer is unchanged then.");
        MultiwayCut cut = new MultiwayCut();
        String text = edges(20) + repeat(" ", 700);
        Check.put(cut, ("graph 9;" + text).substring(0, 680));
        Check.sameLong("up to 700 bytes", cut.append(BLANKS, BLANKS, BLANKS, BLANKS, BLANKS), 700);
        Check.sameLong("700 bytes are there", cut.append(0, 0, 0, 0, 0), -1);
        Check.sameLong("they still are", cut.append(-1, -1, -1, -1, -1), -1);
        Check.noArgument("no byte more", () -> cut.load(701));
        Check.sameLong("all as it was", cut.load(700), 20);
        Check.sameLong("room again", cut.append(0, 0, 0, 0, 0), 20);
    }

    private static void loadFirstBytes() {
        Check.sentence("Reads the first bytes of the input buffer as a setup text");
        MultiwayCut cut = new MultiwayCut();
        Check.put(cut, "graph 3;terminal 1;edge 0 1 5;edge 1 2 7;");
        Check.sameLong("up to the first semicolon", cut.load(8), 0);
        Check.sameLong("nothing behind it", cut.terminals(), 0);
        Check.put(cut, "graph 3;terminal 1;");
        Check.sameLong("one byte less", cut.load(18), SYNTAX);
        Check.sameLong("it ends there", cut.errorOffset(), 18);
        Check.put(cut, "graph 3;edge 0 1 567");
        Check.sameLong("a number that goes on behind the length", cut.load(18), SYNTAX);
        Check.sameLong("it ends too early, but is in range", cut.errorOffset(), 18);
        Check.put(cut, "graph 3;");
        Check.sameLong("none of them", cut.load(0), SYNTAX);
    }

    private static void loadReplacesAll() {
        Check.sentence("replaces all data by what it describes.");
        MultiwayCut cut = Check.of("graph 4;terminal 0;terminal 3;edge 0 1 5;edge 1 2 7;load 0 9;load 3 8;cost weight*2;");
        cut.setLabel(1, 3);
        Check.sameLong("load", Check.load(cut, "graph 3;edge 0 2 6;terminal 1;load 1 4;"), 1);
        Check.sameLong("size", cut.size(), 3);
        Check.sameLong("terminals", cut.terminals(), 2);
        Check.sameLong("the old load", cut.burden(0), 0);
        Check.sameLong("the new load", cut.burden(1), 4);
        Check.sameLong("an end", cut.edge(0, 1), 2);
        Check.sameLong("no cost statement any more", cut.edge(0, 3), 6);
        Check.sameText("labels", Check.labels(cut), "-1 1 -1");
        Check.noIndex("an old vertex", () -> cut.label(3));
        Check.noIndex("an old edge", () -> cut.edge(1, 0));
    }

    private static void loadEmptiesBuffer() {
        Check.sentence("The input buffer is empty afterwards, also if the text has an error.");
        for (String text : new String[] {"graph 2;", "graph 1;", ""}) {
            MultiwayCut cut = new MultiwayCut();
            Check.put(cut, "graph 2;edge 0 1 5;terminal 0;");
            Check.put(cut, text);
            cut.load(text.isEmpty() ? 0 : 25);
            Check.noArgument("a byte of it", () -> cut.load(1));
            Check.sameLong("append", cut.append(BLANKS, 0, 0, 0, 0), 20);
            Check.sameLong("what is there now", cut.load(4), SYNTAX);
            Check.sameLong("are spaces", cut.errorOffset(), 4);
        }
    }

    private static void loadErrorKeepsData() {
        Check.sentence("An error leaves all other data unchanged.");
        String[] texts = {
            "", "graph 3;edge 0 1 9;load 0 1;cost 7;terminal 2;?", "graph 3;cost 5;edge 0 1 100;", "graph 3;terminal 1;terminal 1;",
            FIVE + "terminal 1;", "graph 2;cost (((((",
        };
        for (String text : texts) {
            MultiwayCut cut = Check.of("graph 4;terminal 0;terminal 3;edge 0 1 5;edge 1 2 7;load 0 9;load 3 8;cost weight+low;");
            cut.setLabel(1, 3);
            long before = cut.checksum();
            Check.is("an error in " + text, Check.load(cut, text) < 0);
            Check.sameLong("checksum after " + text, cut.checksum(), before);
            Check.sameLong("burden after " + text, cut.burden(0), 9);
            Check.sameLong("weight after " + text, cut.setWeight(0, 6), 5);
            Check.sameLong("cost after " + text, cut.edge(0, 3), 15);
            Check.sameLong("changes after " + text, cut.undo(), 2);
        }
    }

    private static void loadEmptyText() {
        Check.sentence("An empty text has a SYNTAX_ERROR.");
        MultiwayCut cut = new MultiwayCut();
        Check.sameLong("a new object", cut.load(0), SYNTAX);
        Check.sameLong("its offset", cut.errorOffset(), 0);
        Check.sameLong("no data", cut.size(), 0);
        Check.load(cut, "graph 2;");
        Check.sameLong("a loaded object", cut.load(0), SYNTAX);
        Check.sameLong("its offset", cut.errorOffset(), 0);
        Check.sameLong("the data", cut.size(), 2);
    }

    private static void loadAnswers() {
        Check.sentence("Returns the number of edges; or the error code of the first error.");
        good("graph 9;", 0);
        for (int count : new int[] {1, 19, 20}) {
            good("graph 9;" + edges(count), count);
        }
        bad("graph 9;" + edges(21), MANY, 8 + edges(20).length());
        bad("graph 2", SYNTAX, 7);
        bad("graph 1;", RANGE, 6);
        bad("graph 2;edge 0 0 1;", TWICE, 15);
        bad("graph 2;cost (((((1)))));", DEEP, 17);
    }

    private static void loadThrows() {
        Check.sentence("if length is negative or greater than the length of the buffer; the buffer is unchanged then");
        MultiwayCut cut = new MultiwayCut();
        Check.sameLong("append", cut.append(0x67726170, 0x68202039, BLANKS, BLANKS, 0x2020203b), 20);
        for (int length : new int[] {-1, Integer.MIN_VALUE, 21, 700, 701, Integer.MAX_VALUE}) {
            Check.noArgument("length " + length, () -> cut.load(length));
        }
        Check.sameLong("append behind it", cut.append(BLANKS, BLANKS, BLANKS, BLANKS, BLANKS), 40);
        Check.noArgument("length 41", () -> cut.load(41));
        Check.sameLong("the whole buffer", cut.load(40), 0);
        Check.sameLong("what it described", cut.size(), 9);
        Check.noArgument("an empty buffer", () -> cut.load(1));
    }

    private static void errorOffsets() {
        Check.sentence("Returns the offset of the error found by the latest call of load that did not throw;");
        MultiwayCut cut = new MultiwayCut();
        Check.load(cut, "x");
        Check.sameLong("the first byte", cut.errorOffset(), 0);
        Check.load(cut, repeat(" ", 699) + "x");
        Check.sameLong("the last byte", cut.errorOffset(), 699);
        Check.noArgument("a call that throws", () -> cut.load(-1));
        Check.sameLong("the call before", cut.errorOffset(), 699);
        Check.load(cut, "graph 2;x");
        Check.sameLong("another one", cut.errorOffset(), 8);
    }

    private static void noErrorOffset() {
        Check.sentence("-1 if it found none or if there was no such call.");
        MultiwayCut cut = new MultiwayCut();
        Check.sameLong("no call", cut.errorOffset(), -1);
        Check.noArgument("a call that throws", () -> cut.load(1));
        Check.sameLong("only a call that threw", cut.errorOffset(), -1);
        Check.load(cut, "graph 2;");
        Check.sameLong("none", cut.errorOffset(), -1);
        Check.load(cut, "graph 2");
        Check.load(cut, "graph 2;");
        Check.sameLong("none in the latest call", cut.errorOffset(), -1);
        Check.noArgument("a call that throws", () -> cut.load(1));
        Check.sameLong("none in the call before", cut.errorOffset(), -1);
    }

    // ---- The setup text ----

    private static void fullBuffer() {
        Check.sentence("The setup text is read from an input buffer of at most 700 bytes.");
        String text = "graph 9;" + edges(20) + FIVE.substring(8);
        String statement = "cost" + repeat(" ", 700 - text.length() - 6) + "7;";
        good(text + statement, 20);
        Check.sameLong("the last statement counts", Check.of(text + statement).edge(19, 3), 7);
        bad((text + " " + statement).substring(0, 700), SYNTAX, 700);
        bad("graph " + repeat("0", 691) + "9;x", SYNTAX, 699);
        good("graph " + repeat("0", 692) + "9;", 0);
        good("graph 2;cost " + repeat("1+", 342) + "11;", 0);
        Check.sameLong("a long sum", Check.of("graph 2;edge 0 1 1;cost " + repeat("1+", 336) + "10;").edge(0, 3), 346);
        Check.sameLong("a long term", Check.of("graph 2;edge 0 1 1;cost 5" + repeat("*1", 336) + ";").edge(0, 3), 5);
    }

    private static void grammar() {
        Check.sentence("setup = \"graph\" number \";\" { statement \";\" }");
        good("graph 2;", 0);
        good("graph 2;cost 1;load 1 1;edge 0 1 1;terminal 1;terminal 0;load 0 1;", 1);
        bad("graph 2;;", SYNTAX, 8);
        bad("graph 2;terminal 1;;", SYNTAX, 19);
        bad("graph 2;terminal 1 edge 0 1 1;", SYNTAX, 19);
        bad("terminal 1;graph 2;", SYNTAX, 0);
        bad("graph 2;graph 2;", SYNTAX, 8);
        Check.sentence("sum = term { ( \"+\" | \"-\" ) term }");
        bad("graph 2;cost ;", SYNTAX, 13);
        bad("graph 2;cost +1;", SYNTAX, 13);
        bad("graph 2;cost 1-;", SYNTAX, 15);
        bad("graph 2;cost 1--1;", SYNTAX, 15);
        good("graph 2;cost 1-1+1-1;", 0);
        Check.sentence("term = factor { ( \"*\" | \"/\" ) factor }");
        bad("graph 2;cost *1;", SYNTAX, 13);
        bad("graph 2;cost 1/;", SYNTAX, 15);
        bad("graph 2;cost 1**1;", SYNTAX, 15);
        good("graph 2;cost 1*1/1*1;", 0);
        Check.sentence("factor = number | \"weight\" | \"low\" | \"high\" | \"(\" sum \")\"");
        for (String factor : new String[] {"0", "weight", "low", "high", "(1)", "( low )"}) {
            good("graph 2;cost " + factor + ";", 0);
            bad("graph 2;cost " + factor + " " + factor + ";", SYNTAX, 14 + factor.length());
        }
        for (String factor : new String[] {"load", "cost", "edge", "terminal", "graph", ")", "x", "w"}) {
            bad("graph 2;cost " + factor + ";", SYNTAX, 13);
        }
        bad("graph 2;cost ();", SYNTAX, 14);
        bad("graph 2;cost (1;", SYNTAX, 15);
        bad("graph 2;cost 1);", SYNTAX, 14);
    }

    private static void runs() {
        Check.sentence("A number is a run of decimal digits, of any length (leading zeros do not matter);");
        good("graph " + repeat("0", 600) + "9;", 0);
        good("graph 2;edge 00 001 " + repeat("0", 500) + "99;", 1);
        bad("graph " + repeat("9", 600) + ";", RANGE, 6);
        bad("graph 1" + repeat("0", 600) + ";", RANGE, 6);
        // two more than 2^16, 2^32 and 2^64
        for (String number : new String[] {"65538", "4294967298", "18446744073709551618"}) {
            bad("graph " + number + ";", RANGE, 6);
            bad("graph 3;terminal " + number + ";", RANGE, 17);
            bad("graph 3;cost " + number + "0000;", RANGE, 13);
        }
        Check.sentence("a word is a run of the letters a to z.");
        for (char neighbour : new char[] {'@', 'A', 'Z', '[', '`', '{'}) {
            bad("graph 2;terminal" + neighbour + " 1;", SYNTAX, 16);
        }
        for (char letter : new char[] {'a', 'z'}) {
            bad("graph 2;edge" + letter + " 0 1 1;", SYNTAX, 8);
            bad("graph 2;" + letter + "edge 0 1 1;", SYNTAX, 8);
            bad("graph 2;" + letter + "dge 0 1 1;", SYNTAX, 8);
            bad("graph 2;edg" + letter + " 0 1 1;", SYNTAX, 8);
        }
        for (char neighbour : new char[] {'/', ':'}) {
            bad("graph 2" + neighbour + ";", SYNTAX, 7);
        }
        bad("graph 2;Edge 0 1 1;", SYNTAX, 8);
        bad("a;", SYNTAX, 0);
        bad("z;", SYNTAX, 0);
    }

    private static void longestRuns() {
        Check.sentence("Each run is as long as possible.");
        good("graph2;edge0 1 1;load1 2;terminal0;cost weight;", 1);
        bad("graph 3;edge 01;", SYNTAX, 15);
        bad("graph 3;edge 012 1;", RANGE, 13);
        bad("graphgraph 2;", SYNTAX, 0);
        bad("graph 2;costweight;", SYNTAX, 8);
        bad("graph 2;cost lowhigh;", SYNTAX, 13);
        bad("graph 2;cost 1low;", SYNTAX, 14);
    }

    private static void spaces() {
        Check.sentence("Spaces (byte 32) may precede any token and may follow the last one.");
        String[] tokens = {
            "graph", "3", ";", "edge", "2", "0", "5", ";", "terminal", "1", ";", "load", "2", "7", ";",
            "cost", "(", "weight", "+", "low", ")", "*", "2", "-", "9", "/", "high", ";",
        };
        StringBuilder text = new StringBuilder();
        for (String token : tokens) {
            text.append(repeat(" ", 1 + text.length() % 7)).append(token);
        }
        good(text.toString(), 1);
        good(text + repeat(" ", 700 - text.length()), 1);
        Check.sameLong("cost", Check.of(text.toString()).edge(0, 3), 9);
        good("graph3;edge2 0 5;terminal1;load2 7;cost(weight+low)*2-9/high;", 1);
        bad("gra ph 2;", SYNTAX, 0);
        bad("graph 2;edge 0 1 1 0;", SYNTAX, 19);
    }

    private static void otherBytes() {
        Check.sentence("No other byte separates tokens.");
        for (int value = 0; value < 256; value++) {
            if (value != 32) {
                bad("graph 2;" + (char) value + "terminal 1;", SYNTAX, 8);
            }
            boolean inRun = value >= '0' && value <= '9' || value >= 'a' && value <= 'z';
            if (value != 32 && value != ';' && !inRun) {
                bad("graph 2" + (char) value + ";", SYNTAX, 7);
                bad("graph" + (char) value + "2;", SYNTAX, 5);
            }
        }
    }

    private static void numberOfGraph() {
        Check.sentence("The number of graph is n.");
        for (int n = 0; n <= 12; n++) {
            MultiwayCut cut = new MultiwayCut();
            Check.sameLong("graph " + n, Check.load(cut, "graph " + n + ";"), n >= 2 && n <= 9 ? 0 : RANGE);
            Check.sameLong("size", cut.size(), n >= 2 && n <= 9 ? n : 0);
        }
    }

    private static void numberOfTerminal() {
        Check.sentence("That of terminal is a vertex that is a terminal.");
        for (int n = 2; n <= 9; n++) {
            for (int vertex = 0; vertex < n; vertex++) {
                Check.sameLong("terminal " + vertex, Check.of("graph " + n + ";terminal " + vertex + ";").terminals(), 1 << vertex);
            }
            bad("graph " + n + ";terminal " + n + ";", RANGE, 17);
        }
    }

    private static void numbersOfEdge() {
        Check.sentence("Those of edge are two different vertices, in whatever order, and the weight;");
        for (int n = 2; n <= 9; n++) {
            String head = "graph " + n + ";edge ";
            good(head + (n - 1) + " 0 1;", 1);
            good(head + "0 " + (n - 1) + " 99;", 1);
            bad(head + n + " 0 1;", RANGE, 13);
            bad(head + "0 " + n + " 1;", RANGE, 15);
            bad(head + (n - 1) + " " + (n - 1) + " 1;", TWICE, 15);
            bad(head + "0 1 0;", RANGE, 17);
            bad(head + "0 1 100;", RANGE, 17);
        }
        MultiwayCut cut = Check.of("graph 9;edge 8 3 44;edge 3 7 45;");
        Check.sameLong("the smaller end", cut.edge(0, 0), 3);
        Check.sameLong("the greater end", cut.edge(0, 1), 8);
        Check.sameLong("the weight", cut.edge(0, 2), 44);
        Check.sameLong("the smaller end, in order", cut.edge(1, 0), 3);
    }

    private static void indexesOfEdges() {
        Check.sentence("edges have their indexes in the order of the text.");
        MultiwayCut cut = Check.of("graph 9;" + edges(20));
        for (int edge = 0; edge < 20; edge++) {
            Check.sameLong("weight of edge " + edge, cut.edge(edge, 2), edge + 1);
        }
        Check.noIndex("edge 20", () -> cut.edge(20, 0));
        MultiwayCut mixed = Check.of("graph 3;edge 2 1 7;terminal 0;edge 1 0 5;cost weight;edge 2 0 6;");
        Check.sameLong("first", mixed.edge(0, 2), 7);
        Check.sameLong("second", mixed.edge(1, 2), 5);
        Check.sameLong("third", mixed.edge(2, 2), 6);
    }

    private static void numbersOfLoad() {
        Check.sentence("Those of load are a vertex and its load; the loads of all others are 0.");
        MultiwayCut cut = Check.of("graph 4;load 3 99;load 0 0;load 2 1;");
        int[] due = {0, 0, 1, 99};
        for (int vertex = 0; vertex < 4; vertex++) {
            Check.sameLong("burden " + vertex, cut.burden(vertex), due[vertex]);
        }
        bad("graph 4;load 3 100;", RANGE, 15);
        bad("graph 4;load 4 0;", RANGE, 13);
        MultiwayCut all = Check.of("graph 9;load 0 1;load 1 2;load 2 3;load 3 4;load 4 5;load 5 6;load 6 7;load 7 8;load 8 9;");
        for (int vertex = 0; vertex < 9; vertex++) {
            Check.sameLong("burden of all " + vertex, all.burden(vertex), vertex + 1);
        }
        Check.sameLong("a load behind the cost statement", Check.of("graph 2;edge 0 1 1;cost low;load 0 9;").edge(0, 3), 9);
    }

    private static void numberAsFactor() {
        Check.sentence("A number as a factor is 0 to 9999.");
        good("graph 2;cost 0;", 0);
        good("graph 2;cost 9999;", 0);
        good("graph 2;cost 0009999;", 0);
        bad("graph 2;cost 10000;", RANGE, 13);
        bad("graph 2;cost 00010000;", RANGE, 13);
        bad("graph 2;cost 9999*(1-10000);", RANGE, 21);
    }

    private static void nesting() {
        Check.sentence("Parentheses nest at most 4 deep.");
        for (int depth = 0; depth <= 4; depth++) {
            good("graph 2;cost " + repeat("(", depth) + "1" + repeat(")", depth) + ";", 0);
            bad("graph 2;cost " + repeat("(", depth) + "1" + repeat(")", depth + 1) + ";", SYNTAX, 14 + 2 * depth);
        }
        for (int depth = 5; depth <= 40; depth++) {
            bad("graph 2;cost " + repeat("(", depth) + "1" + repeat(")", depth) + ";", DEEP, 17);
        }
        bad("graph 2;cost " + repeat("(", 687), DEEP, 17);
        good("graph 2;cost " + repeat("((((1))))+", 60) + "1;", 0);
        String edge = "graph 2;edge 0 1 1;cost ";
        Check.sameLong("a sum and a term at each depth", Check.of(edge + "1+2*(1+2*(1+2*(1+2*(1+2*3))));").edge(0, 3), 127);
        Check.sameLong("in front", Check.of(edge + "((((3*2+1)*2+1)*2+1)*2+1)*2+1;").edge(0, 3), 127);
    }

    private static void costOnce() {
        Check.sentence("The statement cost may occur once.");
        good("graph 2;", 0);
        good("graph 2;cost 5;", 0);
        bad("graph 2;cost 5;cost 5;", SYNTAX, 15);
        MultiwayCut cut = Check.of("graph 2;cost 5;");
        Check.sameLong("once in each text", Check.load(cut, "graph 2;cost 6;"), 0);
        Check.load(cut, "graph 2;cost 5+5;x");
        Check.sameLong("also behind a text with an error", Check.load(cut, "graph 2;edge 0 1 1;cost 7;"), 1);
        Check.sameLong("the latest one counts", cut.edge(0, 3), 7);
    }

    // ---- Errors ----

    private static void firstError() {
        Check.sentence("The first error in the text is the one with the smallest offset.");
        bad("graph 3;terminal 3;edge 0 0 1;x", RANGE, 17);
        bad("graph 3;edge 0 0 1;terminal 3;x", TWICE, 15);
        bad("graph 3;x;edge 0 0 1;terminal 3;", SYNTAX, 8);
        bad("graph 3;cost (((((1;terminal 3;", DEEP, 17);
        bad("graph 3;cost 10000+(((((", RANGE, 13);
        bad("graph 1;x", RANGE, 6);
        bad("graph 1", RANGE, 6);
        bad("graph 3;edge 3 3 100", RANGE, 13);
        bad("graph 3;edge 1 1", TWICE, 15);
        bad("graph 3;edge 1 0 0", RANGE, 17);
        bad("graph 3;load 1 0;load 1 100;", TWICE, 22);
        bad(FIVE + "terminal 9;", MANY, FIVE.length());
        bad("graph 9;" + edges(20) + "edge 9 9 100;", MANY, 8 + edges(20).length());
    }

    private static void sameOffset() {
        Check.sentence("If several kinds of error have the same offset, the first one in this list counts:");
        bad("graph 2 99;", SYNTAX, 8);
        bad("graph 2;cost 1 99999;", SYNTAX, 15);
        bad("graph 2;terminal 1;terminal 1 1;", TWICE, 28);
        bad("graph 2;terminal 0 9;", SYNTAX, 19);
        bad("graph 2;cost ((((1(1))));", SYNTAX, 18);
        bad("graph 2;cost ((((low((((", SYNTAX, 20);
        bad(FIVE + "terminals 1;", SYNTAX, FIVE.length());
        bad("graph 9;" + edges(20) + "edges 7 8 1;", SYNTAX, 8 + edges(20).length());
    }

    private static void errorsOfSyntax() {
        Check.sentence("a token or byte that the grammar does not allow here, at its first byte;");
        bad("  graphs 2;", SYNTAX, 2);
        bad("graph   x;", SYNTAX, 8);
        bad("graph 2   ,", SYNTAX, 10);
        bad("graph 2;terminal  terminal 1;", SYNTAX, 18);
        bad("graph 2;edge 0  1  weight;", SYNTAX, 19);
        bad("graph 2;load 0  -1;", SYNTAX, 16);
        bad("graph 2;cost 1  weight;", SYNTAX, 16);
        bad("graph 2;cost 1.5;", SYNTAX, 14);
        bad("graph 2;" + (char) 200, SYNTAX, 8);
        bad("graph 2;" + (char) 0, SYNTAX, 8);
    }

    private static void endOfText() {
        Check.sentence("the end of the text, at its length, if the text ends too early;");
        String[] tokens = ("graph 5 ; terminal 3 ; load 2 7 ; cost weight + ( low - 3 ) * high / 2 ; edge 4 1 9 ;").split(" ");
        String text = "";
        boolean whole = false;
        for (String token : tokens) {
            if (!whole) {
                bad(text, SYNTAX, text.length());
                bad(text + "   ", SYNTAX, text.length() + 3);
            }
            text = text + token + " ";
            whole = token.equals(";");
            if (whole) {
                good(text, token == tokens[tokens.length - 1] ? 1 : 0);
            }
        }
        bad(repeat(" ", 700), SYNTAX, 700);
    }

    private static void secondCost() {
        Check.sentence("a second cost, at its first letter.");
        bad("graph 2;cost 1;edge 0 1 1;  cost 1;", SYNTAX, 28);
        bad("graph 2;cost 1;cost", SYNTAX, 15);
        bad("graph 2;cost 1;cost 1", SYNTAX, 15);
        bad("graph 2;cost 1;costs", SYNTAX, 15);
    }

    private static void errorsOfRange() {
        Check.sentence("a number outside its range, at its first digit.");
        bad("graph   00010;", RANGE, 8);
        bad("graph 2;terminal  02;", RANGE, 18);
        bad("graph 2;edge  0002 0 1;", RANGE, 14);
        bad("graph 2;edge 0  0002 1;", RANGE, 16);
        bad("graph 2;edge 0 1  000;", RANGE, 18);
        bad("graph 2;edge 0 1  0100;", RANGE, 18);
        bad("graph 2;load  2 1;", RANGE, 14);
        bad("graph 2;load 1  0100;", RANGE, 16);
        bad("graph 2;cost low+ 010000;", RANGE, 18);
    }

    private static void duplicates() {
        Check.sentence("the vertex of a terminal statement if it is a terminal already;");
        bad("graph 3;terminal 2;terminal 1;terminal  002;", TWICE, 40);
        Check.sentence("the second vertex of an edge if it is the same as the first one, or if there is an edge between them already;");
        bad("graph 3;edge 2  2 1;", TWICE, 16);
        bad("graph 3;edge 02 002 1;", TWICE, 16);
        bad("graph 3;edge 0 1 1;edge 1 2 1;edge 0  1 1;", TWICE, 38);
        bad("graph 3;edge 0 1 1;edge 1 2 1;edge 2  1 1;", TWICE, 38);
        good("graph 3;edge 0 1 1;edge 1 2 1;edge 2 0 1;", 3);
        Check.sentence("the vertex of a load statement if it has one already.");
        bad("graph 3;load 1 0;load 2 5;load  1 0;", TWICE, 32);
        bad("graph 3;load 1 0;load 2 5;load  2 5;", TWICE, 32);
        good("graph 3;load 1 0;load 2 5;load 0 5;", 0);
    }

    private static void tooMany() {
        Check.sentence("a terminal or an edge beyond the maximum number, at the first letter of its statement.");
        good(FIVE, 0);
        bad(FIVE + "  terminal 1;", MANY, FIVE.length() + 2);
        bad(FIVE + "load 1 1;terminal 1;", MANY, FIVE.length() + 9);
        bad(FIVE + "terminal 4;", MANY, FIVE.length());
        String twenty = "graph 9;" + edges(20);
        good(twenty, 20);
        bad(twenty + "  edge 7 8 1;", MANY, twenty.length() + 2);
        bad(twenty + "cost 1;edge 7 8 1;", MANY, twenty.length() + 7);
        good(twenty + FIVE.substring(8), 20);
        good("graph 5;terminal 0;terminal 1;terminal 2;terminal 3;terminal 4;", 0);
        bad("graph 4;terminal 0;terminal 1;terminal 2;terminal 3;terminal 3;", TWICE, 61);
    }

    private static void tooDeep() {
        Check.sentence("an opening parenthesis inside 4 others, at that parenthesis.");
        bad("graph 2;cost (((( (1)))));", DEEP, 18);
        bad("graph 2;cost (1+(1*(1-(1/  (1)))));", DEEP, 27);
        bad("graph 2;cost ((((1)*(1)", SYNTAX, 23);
        bad("graph 2;cost ((((1))+((1)))+(((1)*((1)))));", DEEP, 35);
        good("graph 2;cost ((((1))+((1)))+(((1)*(1))));", 0);
    }
}
