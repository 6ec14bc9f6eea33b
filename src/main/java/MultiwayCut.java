import java.util.Arrays;

/**
 * A small graph whose terminals are to be separated, with the cuts that do it and an assignment of
 * vertices to terminals that is changed, improved and undone.
 */
public final class MultiwayCut {
    public static final int SYNTAX_ERROR = -2;
    public static final int OUT_OF_RANGE = -3;
    public static final int DUPLICATE = -4;
    public static final int TOO_MANY = -5;
    public static final int TOO_DEEP = -6;

    private static final int NONE = -1;
    private static final int BUFFER_MAX = 700;
    private static final int BYTES_PER_APPEND = 20;
    private static final int SIZE_MIN = 2;
    private static final int SIZE_MAX = 9;
    private static final int EDGES_MAX = 20;
    private static final int TERMINALS_MAX = 5;
    private static final int WEIGHT_MAX = 99;
    private static final int LOAD_MAX = 99;
    private static final int COST_MAX = 9999;
    private static final int DEPTH_MAX = 4;
    private static final int MOVES_MAX = 20;
    private static final int UNDO_MAX = 8;

    private final byte[] buffer = new byte[BUFFER_MAX];
    private int bufferLength;
    private int errorAt = NONE;
    private final Graph graph = new Graph();
    private final History history = new History();
    private final SetupReader reader = new SetupReader();
    private final Grouping grouping = new Grouping();
    private final ExactSearch exactSearch = new ExactSearch();
    private final NearestSearch nearestSearch = new NearestSearch();
    private final MoveSearch moveSearch = new MoveSearch();

    public MultiwayCut() {
    }

    // ---- Setup text ----

    public int append(int w0, int w1, int w2, int w3, int w4) {
        if (bufferLength > BUFFER_MAX - BYTES_PER_APPEND) {
            return -1;
        }
        putWord(w0);
        putWord(w1);
        putWord(w2);
        putWord(w3);
        putWord(w4);
        return bufferLength;
    }

    private void putWord(int word) {
        for (int shift = 24; shift >= 0 && bufferLength < BUFFER_MAX; shift -= 8) {
            buffer[bufferLength] = (byte) (word >> shift);
            bufferLength++;
        }
    }

    public int load(int length) throws IllegalArgumentException {
        if (length < 0 || length > bufferLength) {
            throw new IllegalArgumentException("length is not within the input buffer");
        }
        bufferLength = 0;
        boolean good = reader.read(buffer, length);
        errorAt = good ? NONE : reader.errorStart;
        if (!good) {
            return reader.errorCode;
        }
        history.save(graph);
        graph.copyFrom(reader.graph);
        return graph.edgeTotal;
    }

    public int errorOffset() {
        return errorAt;
    }

    // ---- The graph ----

    public int size() {
        return graph.vertexTotal;
    }

    public int edgeCount() {
        return graph.edgeTotal;
    }

    public int terminals() {
        return graph.terminalSet;
    }

    public int burden(int vertex) throws IndexOutOfBoundsException {
        requireVertex(vertex);
        return graph.loads[vertex];
    }

    public int edge(int edge, int what) throws IndexOutOfBoundsException, IllegalArgumentException {
        requireEdge(edge);
        if (what == 0) {
            return graph.lowEnds[edge];
        }
        if (what == 1) {
            return graph.highEnds[edge];
        }
        if (what == 2) {
            return graph.weights[edge];
        }
        if (what == 3) {
            return graph.costs[edge];
        }
        if (what == 4) {
            return graph.lengthOf(edge);
        }
        throw new IllegalArgumentException("what is not 0 to 4");
    }

    public int cutCost(int set) throws IllegalArgumentException {
        if (set < 0 || set > graph.allVertices()) {
            throw new IllegalArgumentException("this is no set of vertices");
        }
        return graph.costOfSet(set);
    }

    public boolean separates(int set) throws IllegalArgumentException {
        if (set < 0 || set >= 1 << graph.edgeTotal) {
            throw new IllegalArgumentException("this is no set of edges");
        }
        return Cuts.keepsApart(graph, set);
    }

    // ---- Isolating cuts ----

    public int isolatingValue(int terminal) throws IllegalArgumentException {
        requireTerminal(terminal);
        return Cuts.valueOf(graph, terminal);
    }

    public int isolatingSet(int terminal) throws IllegalArgumentException {
        requireTerminal(terminal);
        return Cuts.setOf(graph, terminal);
    }

    public int lowerBound() {
        int sum = 0;
        for (int vertex = 0; vertex < graph.vertexTotal; vertex++) {
            if (graph.isTerminal(vertex)) {
                sum += Cuts.valueOf(graph, vertex);
            }
        }
        return (sum + 1) / 2;
    }

    public int dearest() throws IllegalStateException {
        requireSomeTerminal();
        return Cuts.dearestOf(graph);
    }

    public int unionCut() throws IllegalStateException {
        requireSomeTerminal();
        return Cuts.unionOf(graph);
    }

    public int unionCost() throws IllegalStateException {
        requireSomeTerminal();
        return graph.costOfEdges(Cuts.unionOf(graph));
    }

    // ---- Rounds ----

    public int rounds() {
        grouping.run(graph);
        return grouping.made;
    }

    public int fixed(int vertex) throws IndexOutOfBoundsException {
        requireVertex(vertex);
        grouping.run(graph);
        return grouping.ownerOf(vertex);
    }

    // ---- The exact assignment ----

    public int exactCost() {
        exactSearch.run(graph, graph.terminalSet);
        return exactSearch.bestCost;
    }

    public int exact(int vertex) throws IndexOutOfBoundsException {
        requireVertex(vertex);
        exactSearch.run(graph, graph.terminalSet);
        return exactSearch.best[vertex];
    }

    public int price(int terminal) throws IllegalArgumentException {
        requireTerminal(terminal);
        exactSearch.run(graph, graph.terminalSet);
        int with = exactSearch.bestCost;
        exactSearch.run(graph, graph.terminalSet & ~(1 << terminal));
        return with - exactSearch.bestCost;
    }

    // ---- Nearest terminals ----

    public int nearest(int vertex) throws IndexOutOfBoundsException {
        requireVertex(vertex);
        nearestSearch.run(graph);
        return nearestSearch.goals[vertex];
    }

    public int distance(int vertex) throws IndexOutOfBoundsException {
        requireVertex(vertex);
        nearestSearch.run(graph);
        return nearestSearch.lengths[vertex];
    }

    // ---- The present assignment ----

    public int label(int vertex) throws IndexOutOfBoundsException {
        requireVertex(vertex);
        return graph.labels[vertex];
    }

    public int cost() {
        return graph.presentCost();
    }

    public int cut() {
        return graph.presentCut();
    }

    public float ratio() {
        int present = graph.presentCost();
        exactSearch.run(graph, graph.terminalSet);
        int least = exactSearch.bestCost;
        if (least == 0) {
            return present == 0 ? 1.0f : -1.0f;
        }
        return (float) present / (float) least;
    }

    public float meanCost() {
        int count = Integer.bitCount(graph.terminalSet);
        float mean = 0.0f;
        if (count < 2) {
            return mean;
        }
        for (int edge = 0; edge < graph.edgeTotal; edge++) {
            float share = (float) graph.costs[edge];
            if (!graph.isTerminal(graph.lowEnds[edge]) || !graph.isTerminal(graph.highEnds[edge])) {
                share = share * (float) (count - 1) / (float) count;
            }
            mean = mean + share;
        }
        return mean;
    }

    public int bestMove(int what) throws IllegalArgumentException {
        if (what < 0 || what > 2) {
            throw new IllegalArgumentException("what is not 0 to 2");
        }
        moveSearch.run(graph);
        if (what == 0) {
            return moveSearch.vertex;
        }
        return what == 1 ? moveSearch.terminal : moveSearch.costThen;
    }

    // ---- Changes of the assignment ----

    public int setLabel(int vertex, int terminal)
            throws IndexOutOfBoundsException, IllegalArgumentException, IllegalStateException {
        requireVertex(vertex);
        if (terminal != NONE) {
            requireTerminal(terminal);
        }
        if (graph.isTerminal(vertex)) {
            throw new IllegalStateException("a terminal keeps itself");
        }
        history.save(graph);
        graph.labels[vertex] = terminal;
        return graph.presentCost();
    }

    public int useNearest() {
        history.save(graph);
        nearestSearch.run(graph);
        graph.takeLabels(nearestSearch.goals);
        return graph.presentCost();
    }

    public int useUnion() throws IllegalStateException {
        requireSomeTerminal();
        history.save(graph);
        Cuts.labelByUnion(graph);
        return graph.presentCost();
    }

    public int useExact() {
        history.save(graph);
        exactSearch.run(graph, graph.terminalSet);
        graph.takeLabels(exactSearch.best);
        return graph.presentCost();
    }

    public int improve(int most) throws IllegalArgumentException {
        if (most < 1 || most > MOVES_MAX) {
            throw new IllegalArgumentException("most is not 1 to 20");
        }
        history.save(graph);
        int moves = 0;
        while (moves < most && moveSearch.makeImprovement(graph)) {
            moves++;
        }
        return moves;
    }

    // ---- Changes of the graph ----

    public int setWeight(int edge, int weight) throws IndexOutOfBoundsException, IllegalArgumentException {
        requireEdge(edge);
        requireWeight(weight);
        history.save(graph);
        int previous = graph.weights[edge];
        graph.weights[edge] = weight;
        graph.updateCost(edge);
        return previous;
    }

    public int addEdge(int a, int b, int weight)
            throws IndexOutOfBoundsException, IllegalArgumentException, IllegalStateException {
        requireVertex(a);
        requireVertex(b);
        if (a == b) {
            throw new IllegalArgumentException("an edge has two different ends");
        }
        requireWeight(weight);
        if (graph.edgeTotal >= EDGES_MAX || graph.hasEdgeBetween(a, b)) {
            throw new IllegalStateException("there is no room for this edge");
        }
        history.save(graph);
        graph.putEdge(a, b, weight);
        graph.updateCost(graph.edgeTotal - 1);
        return graph.edgeTotal - 1;
    }

    public int removeEdge(int edge) throws IndexOutOfBoundsException {
        requireEdge(edge);
        history.save(graph);
        graph.dropEdge(edge);
        return graph.edgeTotal;
    }

    public int setTerminal(int vertex, boolean isTerminal)
            throws IndexOutOfBoundsException, IllegalStateException {
        requireVertex(vertex);
        boolean was = graph.isTerminal(vertex);
        if (isTerminal && !was && Integer.bitCount(graph.terminalSet) >= TERMINALS_MAX) {
            throw new IllegalStateException("there are 5 terminals already");
        }
        history.save(graph);
        if (isTerminal && !was) {
            graph.startTerminal(vertex);
        }
        if (!isTerminal && was) {
            graph.endTerminal(vertex);
        }
        return Integer.bitCount(graph.terminalSet);
    }

    public int undo() {
        return history.restore(graph);
    }

    public long checksum() {
        long sum = 31L * graph.vertexTotal + graph.terminalSet;
        for (int edge = 0; edge < graph.edgeTotal; edge++) {
            sum = 31L * sum + graph.lowEnds[edge];
            sum = 31L * sum + graph.highEnds[edge];
            sum = 31L * sum + graph.weights[edge];
        }
        for (int vertex = 0; vertex < graph.vertexTotal; vertex++) {
            sum = 31L * sum + graph.labels[vertex];
        }
        return 31L * sum + graph.presentCost();
    }

    // ---- What arguments have to be ----

    private void requireVertex(int vertex) {
        if (!graph.hasVertex(vertex)) {
            throw new IndexOutOfBoundsException("there is no such vertex");
        }
    }

    private void requireEdge(int edge) {
        if (edge < 0 || edge >= graph.edgeTotal) {
            throw new IndexOutOfBoundsException("there is no such edge");
        }
    }

    private void requireTerminal(int terminal) {
        if (!graph.isTerminal(terminal)) {
            throw new IllegalArgumentException("this is no terminal");
        }
    }

    private void requireSomeTerminal() {
        if (graph.terminalSet == 0) {
            throw new IllegalStateException("there is no terminal");
        }
    }

    private void requireWeight(int weight) {
        if (weight < 1 || weight > WEIGHT_MAX) {
            throw new IllegalArgumentException("weight is not 1 to 99");
        }
    }

    /** The cost expression, its operations behind their operands. It never changes, so graphs share it. */
    private static final class Formula {
        // A code of 0 or more is that number itself.
        static final int WEIGHT = -1;
        static final int LOW = -2;
        static final int HIGH = -3;
        static final int PLUS = -4;
        static final int MINUS = -5;
        static final int TIMES = -6;
        static final int OVER = -7;

        private static final long LIMIT = 1000000L;
        // A left summand and a left factor wait at each depth, and the innermost factor is on top.
        private static final int WAITING_MAX = 2 * (DEPTH_MAX + 1) + 1;

        private final int[] codes;
        private final int[] waiting = new int[WAITING_MAX];

        Formula(int[] codes) {
            this.codes = codes;
        }

        int evaluate(int weight, int low, int high) {
            int count = 0;
            for (int at = 0; at < codes.length; at++) {
                int code = codes[at];
                if (code <= PLUS && count >= 2) {
                    count--;
                    waiting[count - 1] = combine(code, waiting[count - 1], waiting[count]);
                } else if (code > PLUS && count < WAITING_MAX) {
                    waiting[count] = operand(code, weight, low, high);
                    count++;
                }
            }
            return waiting[0];
        }

        private static int operand(int code, int weight, int low, int high) {
            if (code == WEIGHT) {
                return weight;
            }
            if (code == LOW) {
                return low;
            }
            return code == HIGH ? high : code;
        }

        private static int combine(int code, int left, int right) {
            long result = 0;
            if (code == PLUS) {
                result = (long) left + right;
            } else if (code == MINUS) {
                result = (long) left - right;
            } else if (code == TIMES) {
                result = (long) left * right;
            } else if (right != 0) {
                result = left / right;
            }
            return (int) Math.max(-LIMIT, Math.min(LIMIT, result));
        }
    }

    /** The graph and the present assignment: all that a change changes and undo brings back. */
    private static final class Graph {
        private static final int LENGTH_UNIT = 10000;

        int vertexTotal;
        int edgeTotal;
        int terminalSet;
        final int[] loads = new int[SIZE_MAX];
        final int[] labels = new int[SIZE_MAX];
        final int[] lowEnds = new int[EDGES_MAX];
        final int[] highEnds = new int[EDGES_MAX];
        final int[] weights = new int[EDGES_MAX];
        final int[] costs = new int[EDGES_MAX];
        // null: the cost is the weight
        Formula formula;

        void clear() {
            vertexTotal = 0;
            edgeTotal = 0;
            terminalSet = 0;
            formula = null;
            Arrays.fill(loads, 0);
            Arrays.fill(labels, NONE);
        }

        void copyFrom(Graph other) {
            vertexTotal = other.vertexTotal;
            edgeTotal = other.edgeTotal;
            terminalSet = other.terminalSet;
            formula = other.formula;
            System.arraycopy(other.loads, 0, loads, 0, SIZE_MAX);
            System.arraycopy(other.labels, 0, labels, 0, SIZE_MAX);
            System.arraycopy(other.lowEnds, 0, lowEnds, 0, EDGES_MAX);
            System.arraycopy(other.highEnds, 0, highEnds, 0, EDGES_MAX);
            System.arraycopy(other.weights, 0, weights, 0, EDGES_MAX);
            System.arraycopy(other.costs, 0, costs, 0, EDGES_MAX);
        }

        boolean hasVertex(int vertex) {
            return vertex >= 0 && vertex < vertexTotal;
        }

        boolean isTerminal(int vertex) {
            return hasVertex(vertex) && (terminalSet >> vertex & 1) != 0;
        }

        int allVertices() {
            return (1 << vertexTotal) - 1;
        }

        boolean hasEdgeBetween(int a, int b) {
            int ends = 1 << a | 1 << b;
            for (int edge = 0; edge < edgeTotal; edge++) {
                if (endsOf(edge) == ends) {
                    return true;
                }
            }
            return false;
        }

        int endsOf(int edge) {
            return 1 << lowEnds[edge] | 1 << highEnds[edge];
        }

        int lengthOf(int edge) {
            return costs[edge] > 0 ? LENGTH_UNIT / costs[edge] : 0;
        }

        /** Leaves the cost open: in a setup text, the loads and the formula may still follow. */
        void putEdge(int a, int b, int weight) {
            if (edgeTotal >= EDGES_MAX) {
                return;
            }
            lowEnds[edgeTotal] = Math.min(a, b);
            highEnds[edgeTotal] = Math.max(a, b);
            weights[edgeTotal] = weight;
            edgeTotal++;
        }

        void updateCost(int edge) {
            int value = weights[edge];
            if (formula != null) {
                value = formula.evaluate(value, loads[lowEnds[edge]], loads[highEnds[edge]]);
            }
            costs[edge] = Math.max(1, Math.min(COST_MAX, value));
        }

        void dropEdge(int edge) {
            for (int at = edge + 1; at < edgeTotal; at++) {
                lowEnds[at - 1] = lowEnds[at];
                highEnds[at - 1] = highEnds[at];
                weights[at - 1] = weights[at];
                costs[at - 1] = costs[at];
            }
            edgeTotal--;
        }

        void startTerminal(int vertex) {
            terminalSet |= 1 << vertex;
            labels[vertex] = vertex;
        }

        void endTerminal(int terminal) {
            terminalSet &= ~(1 << terminal);
            for (int vertex = 0; vertex < vertexTotal; vertex++) {
                if (labels[vertex] == terminal) {
                    labels[vertex] = NONE;
                }
            }
        }

        void takeLabels(int[] source) {
            for (int vertex = 0; vertex < vertexTotal && vertex < source.length; vertex++) {
                labels[vertex] = source[vertex];
            }
        }

        int borderOf(int set) {
            int border = 0;
            for (int edge = 0; edge < edgeTotal; edge++) {
                if ((set >> lowEnds[edge] & 1) != (set >> highEnds[edge] & 1)) {
                    border |= 1 << edge;
                }
            }
            return border;
        }

        int costOfEdges(int edges) {
            int sum = 0;
            for (int edge = 0; edge < edgeTotal; edge++) {
                if ((edges >> edge & 1) != 0) {
                    sum += costs[edge];
                }
            }
            return sum;
        }

        int costOfSet(int set) {
            return costOfEdges(borderOf(set));
        }

        int presentCut() {
            int edges = 0;
            for (int edge = 0; edge < edgeTotal; edge++) {
                if (labels[lowEnds[edge]] != labels[highEnds[edge]]) {
                    edges |= 1 << edge;
                }
            }
            return edges;
        }

        int presentCost() {
            return costOfEdges(presentCut());
        }
    }

    /** The data before each of the latest changes, in rows that are used again and again. */
    private static final class History {
        private final Graph[] saved = new Graph[UNDO_MAX];
        private int next;
        private int count;

        History() {
            for (int at = 0; at < UNDO_MAX; at++) {
                saved[at] = new Graph();
            }
        }

        void save(Graph graph) {
            saved[next].copyFrom(graph);
            next = (next + 1) % UNDO_MAX;
            count = Math.min(UNDO_MAX, count + 1);
        }

        int restore(Graph graph) {
            if (count == 0) {
                return -1;
            }
            next = (next + UNDO_MAX - 1) % UNDO_MAX;
            count--;
            graph.copyFrom(saved[next]);
            return count;
        }
    }

    /** Reads a setup text from left to right, so that the error it stops at is the first one. */
    private static final class SetupReader {
        // Any other kind of token is a single byte and has its value.
        private static final int END = 1000;
        private static final int NUMBER = 1001;
        private static final int WORD = 1002;
        // Above every number that is allowed somewhere, and ten times it is still an int.
        private static final int HUGE = 100000;

        final Graph graph = new Graph();
        int errorCode;
        int errorStart;
        private byte[] text = new byte[0];
        private int length;
        private int tokenKind;
        private int tokenStart;
        private int tokenEnd;
        private int tokenValue;
        private int loadedSet;
        private boolean costSeen;
        private final int[] codes = new int[BUFFER_MAX];
        private int codeTotal;

        boolean read(byte[] source, int sourceLength) {
            graph.clear();
            text = source;
            length = Math.min(sourceLength, source.length);
            tokenEnd = 0;
            loadedSet = 0;
            costSeen = false;
            codeTotal = 0;
            advance();
            boolean good = readGraph();
            // Each turn reads one byte at least.
            for (int turn = 0; good && tokenKind != END && turn < length; turn++) {
                good = readStatement() && readSymbol(';');
            }
            if (good) {
                finish();
            }
            return good;
        }

        private void finish() {
            if (costSeen) {
                graph.formula = new Formula(Arrays.copyOf(codes, codeTotal));
            }
            for (int vertex = 0; vertex < graph.vertexTotal; vertex++) {
                graph.labels[vertex] = graph.isTerminal(vertex) ? vertex : NONE;
            }
            for (int edge = 0; edge < graph.edgeTotal; edge++) {
                graph.updateCost(edge);
            }
        }

        private boolean readGraph() {
            if (!isWord("graph")) {
                return fail(SYNTAX_ERROR);
            }
            advance();
            int count = numberHere(SIZE_MIN, SIZE_MAX);
            if (count < 0) {
                return false;
            }
            graph.vertexTotal = count;
            advance();
            return readSymbol(';');
        }

        private boolean readStatement() {
            if (isWord("terminal")) {
                return readTerminal();
            }
            if (isWord("edge")) {
                return readEdge();
            }
            if (isWord("load")) {
                return readLoad();
            }
            if (isWord("cost")) {
                return startCost() && readSum(0);
            }
            return fail(SYNTAX_ERROR);
        }

        private boolean readTerminal() {
            if (Integer.bitCount(graph.terminalSet) >= TERMINALS_MAX) {
                return fail(TOO_MANY);
            }
            advance();
            int vertex = vertexHere();
            if (vertex < 0) {
                return false;
            }
            if (graph.isTerminal(vertex)) {
                return fail(DUPLICATE);
            }
            graph.terminalSet |= 1 << vertex;
            advance();
            return true;
        }

        private boolean readEdge() {
            if (graph.edgeTotal >= EDGES_MAX) {
                return fail(TOO_MANY);
            }
            advance();
            int a = vertexHere();
            if (a < 0) {
                return false;
            }
            advance();
            int b = vertexHere();
            if (b < 0) {
                return false;
            }
            if (a == b || graph.hasEdgeBetween(a, b)) {
                return fail(DUPLICATE);
            }
            advance();
            int weight = numberHere(1, WEIGHT_MAX);
            if (weight < 0) {
                return false;
            }
            graph.putEdge(a, b, weight);
            advance();
            return true;
        }

        private boolean readLoad() {
            advance();
            int vertex = vertexHere();
            if (vertex < 0) {
                return false;
            }
            if ((loadedSet >> vertex & 1) != 0) {
                return fail(DUPLICATE);
            }
            loadedSet |= 1 << vertex;
            advance();
            int burden = numberHere(0, LOAD_MAX);
            if (burden < 0) {
                return false;
            }
            graph.loads[vertex] = burden;
            advance();
            return true;
        }

        private boolean startCost() {
            if (costSeen) {
                return fail(SYNTAX_ERROR);
            }
            costSeen = true;
            advance();
            return true;
        }

        private boolean readSum(int depth) {
            boolean good = readTerm(depth);
            for (int turn = 0; good && (tokenKind == '+' || tokenKind == '-') && turn < length; turn++) {
                int code = tokenKind == '+' ? Formula.PLUS : Formula.MINUS;
                advance();
                good = readTerm(depth);
                putCode(code);
            }
            return good;
        }

        private boolean readTerm(int depth) {
            boolean good = readFactor(depth);
            for (int turn = 0; good && (tokenKind == '*' || tokenKind == '/') && turn < length; turn++) {
                int code = tokenKind == '*' ? Formula.TIMES : Formula.OVER;
                advance();
                good = readFactor(depth);
                putCode(code);
            }
            return good;
        }

        private boolean readFactor(int depth) {
            if (tokenKind == '(') {
                if (depth >= DEPTH_MAX) {
                    return fail(TOO_DEEP);
                }
                advance();
                return readSum(depth + 1) && readSymbol(')');
            }
            if (tokenKind == NUMBER) {
                int number = numberHere(0, COST_MAX);
                if (number < 0) {
                    return false;
                }
                putCode(number);
            } else if (isWord("weight")) {
                putCode(Formula.WEIGHT);
            } else if (isWord("low")) {
                putCode(Formula.LOW);
            } else if (isWord("high")) {
                putCode(Formula.HIGH);
            } else {
                return fail(SYNTAX_ERROR);
            }
            advance();
            return true;
        }

        private void putCode(int code) {
            if (codeTotal < BUFFER_MAX) {
                codes[codeTotal] = code;
                codeTotal++;
            }
        }

        private boolean readSymbol(int symbol) {
            if (tokenKind != symbol) {
                return fail(SYNTAX_ERROR);
            }
            advance();
            return true;
        }

        private int vertexHere() {
            return numberHere(0, graph.vertexTotal - 1);
        }

        /** Stays at the number: an error that depends on its value is told at its first digit, too. */
        private int numberHere(int least, int most) {
            if (tokenKind != NUMBER) {
                fail(SYNTAX_ERROR);
                return NONE;
            }
            if (tokenValue < least || tokenValue > most) {
                fail(OUT_OF_RANGE);
                return NONE;
            }
            return tokenValue;
        }

        private boolean isWord(String word) {
            if (tokenKind != WORD || tokenEnd - tokenStart != word.length()) {
                return false;
            }
            for (int at = 0; at < word.length(); at++) {
                if (text[tokenStart + at] != word.charAt(at)) {
                    return false;
                }
            }
            return true;
        }

        private boolean fail(int code) {
            errorCode = code;
            errorStart = tokenStart;
            return false;
        }

        private void advance() {
            int at = tokenEnd;
            while (at < length && text[at] == ' ') {
                at++;
            }
            tokenStart = at;
            tokenValue = 0;
            if (at >= length) {
                tokenKind = END;
            } else if (text[at] >= '0' && text[at] <= '9') {
                tokenKind = NUMBER;
                for (; at < length && text[at] >= '0' && text[at] <= '9'; at++) {
                    tokenValue = Math.min(HUGE, 10 * tokenValue + text[at] - '0');
                }
            } else if (text[at] >= 'a' && text[at] <= 'z') {
                tokenKind = WORD;
                while (at < length && text[at] >= 'a' && text[at] <= 'z') {
                    at++;
                }
            } else {
                tokenKind = text[at];
                at++;
            }
            tokenEnd = at;
        }
    }

    /** Cuts that separate terminals, computed from a graph without keeping anything. */
    private static final class Cuts {
        static boolean keepsApart(Graph graph, int removed) {
            for (int vertex = 0; vertex < graph.vertexTotal; vertex++) {
                int reached = reachedFrom(graph, vertex, removed) & graph.terminalSet;
                if (graph.isTerminal(vertex) && reached != 1 << vertex) {
                    return false;
                }
            }
            return true;
        }

        private static int reachedFrom(Graph graph, int start, int removed) {
            int reached = 1 << start;
            // A way has fewer edges than there are vertices, and each pass follows one more.
            for (int pass = 1; pass < graph.vertexTotal; pass++) {
                for (int edge = 0; edge < graph.edgeTotal; edge++) {
                    int ends = graph.endsOf(edge);
                    if ((removed >> edge & 1) == 0 && (ends & reached) != 0) {
                        reached |= ends;
                    }
                }
            }
            return reached;
        }

        /** Of the sets of base and some free vertices, a cheapest one: the largest or the smallest. */
        static int cheapestSet(Graph graph, int base, int free, boolean largest) {
            int best = base;
            int bestCost = graph.costOfSet(base);
            for (int extra = 1; extra <= free; extra++) {
                if ((extra & ~free) != 0) {
                    continue;
                }
                int set = base | extra;
                int setCost = graph.costOfSet(set);
                int more = Integer.bitCount(set) - Integer.bitCount(best);
                if (setCost < bestCost || setCost == bestCost && (largest ? more > 0 : more < 0)) {
                    best = set;
                    bestCost = setCost;
                }
            }
            return best;
        }

        static int setOf(Graph graph, int terminal) {
            int free = graph.allVertices() & ~graph.terminalSet;
            return cheapestSet(graph, 1 << terminal, free, false);
        }

        static int valueOf(Graph graph, int terminal) {
            return graph.costOfSet(setOf(graph, terminal));
        }

        static int dearestOf(Graph graph) {
            int dearest = NONE;
            int greatest = NONE;
            for (int vertex = 0; vertex < graph.vertexTotal; vertex++) {
                int value = graph.isTerminal(vertex) ? valueOf(graph, vertex) : NONE;
                if (value > greatest) {
                    dearest = vertex;
                    greatest = value;
                }
            }
            return dearest;
        }

        static int unionOf(Graph graph) {
            int dearest = dearestOf(graph);
            int edges = 0;
            for (int vertex = 0; vertex < graph.vertexTotal; vertex++) {
                if (graph.isTerminal(vertex) && vertex != dearest) {
                    edges |= graph.borderOf(setOf(graph, vertex));
                }
            }
            return edges;
        }

        static void labelByUnion(Graph graph) {
            int dearest = dearestOf(graph);
            Arrays.fill(graph.labels, dearest);
            for (int terminal = 0; terminal < graph.vertexTotal; terminal++) {
                if (graph.isTerminal(terminal) && terminal != dearest) {
                    labelSet(graph, setOf(graph, terminal), terminal);
                }
            }
        }

        private static void labelSet(Graph graph, int set, int terminal) {
            for (int vertex = 0; vertex < graph.vertexTotal; vertex++) {
                if ((set >> vertex & 1) != 0) {
                    graph.labels[vertex] = terminal;
                }
            }
        }
    }

    /** The rounds, and the group that each terminal has after them. */
    private static final class Grouping {
        int made;
        private final int[] groups = new int[SIZE_MAX];

        void run(Graph graph) {
            made = 0;
            for (int vertex = 0; vertex < SIZE_MAX; vertex++) {
                groups[vertex] = graph.isTerminal(vertex) ? 1 << vertex : 0;
            }
            boolean changed = graph.terminalSet != 0;
            // Each round but the last one gives some group a vertex.
            while (changed && made < SIZE_MAX) {
                changed = makeRound(graph);
                made++;
            }
        }

        private boolean makeRound(Graph graph) {
            boolean changed = false;
            for (int terminal = 0; terminal < graph.vertexTotal; terminal++) {
                if (!graph.isTerminal(terminal)) {
                    continue;
                }
                int free = graph.allVertices() & ~grouped();
                int group = Cuts.cheapestSet(graph, groups[terminal], free, true);
                changed = changed || group != groups[terminal];
                groups[terminal] = group;
            }
            return changed;
        }

        private int grouped() {
            int all = 0;
            for (int vertex = 0; vertex < SIZE_MAX; vertex++) {
                all |= groups[vertex];
            }
            return all;
        }

        int ownerOf(int vertex) {
            for (int terminal = 0; terminal < SIZE_MAX; terminal++) {
                if ((groups[terminal] >> vertex & 1) != 0) {
                    return terminal;
                }
            }
            return NONE;
        }
    }

    /** The search for the exact assignment. */
    private static final class ExactSearch {
        final int[] best = new int[SIZE_MAX];
        int bestCost;
        private final int[] trial = new int[SIZE_MAX];

        void run(Graph graph, int terminalSet) {
            bestCost = 0;
            Arrays.fill(best, NONE);
            if (terminalSet != 0) {
                bestCost = Integer.MAX_VALUE;
                extend(this, graph, terminalSet, 0, 0);
            }
        }

        /**
         * Gives vertex each terminal in turn. The assignments come in the order in which ties are
         * decided, so one that is not cheaper than the best so far can be left.
         */
        private static void extend(ExactSearch search, Graph graph, int terminalSet, int vertex, int costSoFar) {
            if (costSoFar >= search.bestCost) {
                return;
            }
            if (vertex >= graph.vertexTotal) {
                search.bestCost = costSoFar;
                System.arraycopy(search.trial, 0, search.best, 0, graph.vertexTotal);
                return;
            }
            int choice = (terminalSet >> vertex & 1) != 0 ? 1 << vertex : terminalSet;
            for (int terminal = 0; terminal < graph.vertexTotal; terminal++) {
                if ((choice >> terminal & 1) != 0) {
                    search.trial[vertex] = terminal;
                    int added = search.costToEarlier(graph, vertex);
                    extend(search, graph, terminalSet, vertex + 1, costSoFar + added);
                }
            }
        }

        private int costToEarlier(Graph graph, int vertex) {
            int sum = 0;
            for (int edge = 0; edge < graph.edgeTotal; edge++) {
                if (graph.highEnds[edge] == vertex && trial[graph.lowEnds[edge]] != trial[vertex]) {
                    sum += graph.costs[edge];
                }
            }
            return sum;
        }
    }

    /** The search for the nearest terminals. */
    private static final class NearestSearch {
        final int[] goals = new int[SIZE_MAX];
        final int[] lengths = new int[SIZE_MAX];

        void run(Graph graph) {
            for (int vertex = 0; vertex < SIZE_MAX; vertex++) {
                boolean isGoal = graph.isTerminal(vertex);
                goals[vertex] = isGoal ? vertex : NONE;
                lengths[vertex] = isGoal ? 0 : NONE;
            }
            // A way has fewer edges than there are vertices, and each pass follows one more.
            for (int pass = 1; pass < graph.vertexTotal; pass++) {
                for (int edge = 0; edge < graph.edgeTotal; edge++) {
                    offer(graph.lowEnds[edge], graph.highEnds[edge], graph.lengthOf(edge));
                    offer(graph.highEnds[edge], graph.lowEnds[edge], graph.lengthOf(edge));
                }
            }
        }

        private void offer(int from, int to, int length) {
            if (goals[from] == NONE) {
                return;
            }
            int way = lengths[from] + length;
            boolean shorter = goals[to] == NONE || way < lengths[to];
            if (shorter || way == lengths[to] && goals[from] < goals[to]) {
                goals[to] = goals[from];
                lengths[to] = way;
            }
        }
    }

    /** The search for the best move. */
    private static final class MoveSearch {
        int vertex;
        int terminal;
        int costThen;

        void run(Graph graph) {
            vertex = NONE;
            terminal = NONE;
            costThen = NONE;
            for (int mover = 0; mover < graph.vertexTotal; mover++) {
                for (int goal = 0; goal < graph.vertexTotal; goal++) {
                    if (!graph.isTerminal(mover) && graph.isTerminal(goal) && graph.labels[mover] != goal) {
                        consider(graph, mover, goal);
                    }
                }
            }
        }

        private void consider(Graph graph, int mover, int goal) {
            int before = graph.labels[mover];
            graph.labels[mover] = goal;
            int after = graph.presentCost();
            graph.labels[mover] = before;
            if (vertex == NONE || after < costThen) {
                vertex = mover;
                terminal = goal;
                costThen = after;
            }
        }

        boolean makeImprovement(Graph graph) {
            run(graph);
            if (vertex == NONE || costThen >= graph.presentCost()) {
                return false;
            }
            graph.labels[vertex] = terminal;
            return true;
        }
    }
}
