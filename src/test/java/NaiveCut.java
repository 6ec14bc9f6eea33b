import java.util.ArrayDeque;
import java.util.ArrayList;
import java.util.Arrays;
import java.util.Deque;
import java.util.List;

/**
 * The document once more, in the plainest form and by other ways than the class: it looks at all
 * sets, all assignments and all ways, and keeps whole copies for undo. It checks no arguments.
 */
final class NaiveCut {
    static final class Edge {
        final int low;
        final int high;
        final int weight;
        // 0: not computed yet; loads and the formula are the same as long as an edge is there
        int cost = 0;

        Edge(int a, int b, int weight) {
            this.low = Math.min(a, b);
            this.high = Math.max(a, b);
            this.weight = weight;
        }
    }

    int n = 0;
    int[] loads = new int[0];
    boolean[] terminal = new boolean[0];
    int[] labels = new int[0];
    List<Edge> edges = new ArrayList<>();
    String formula = null;
    private Deque<NaiveCut> past = new ArrayDeque<>();

    NaiveCut copy() {
        NaiveCut other = new NaiveCut();
        other.take(this);
        return other;
    }

    private void take(NaiveCut from) {
        n = from.n;
        loads = from.loads.clone();
        terminal = from.terminal.clone();
        labels = from.labels.clone();
        edges = new ArrayList<>(from.edges);
        formula = from.formula;
    }

    void remember() {
        past.addLast(copy());
        if (past.size() > 8) {
            past.removeFirst();
        }
    }

    int undo() {
        if (past.isEmpty()) {
            return -1;
        }
        take(past.removeLast());
        return past.size();
    }

    void load(NaiveCut described) {
        remember();
        take(described);
        for (int v = 0; v < n; v++) {
            labels[v] = terminal[v] ? v : -1;
        }
    }

    int terminals() {
        int set = 0;
        for (int v = 0; v < n; v++) {
            set += terminal[v] ? 1 << v : 0;
        }
        return set;
    }

    int terminalCount() {
        return Integer.bitCount(terminals());
    }

    // ---- Costs ----

    int costOf(Edge edge) {
        if (edge.cost == 0) {
            long value = formula == null ? edge.weight
                : new Expression(formula, edge.weight, loads[edge.low], loads[edge.high]).value();
            edge.cost = (int) Math.min(9999, Math.max(1, value));
        }
        return edge.cost;
    }

    /** Evaluates while it reads. */
    private static final class Expression {
        private final String text;
        private final int[] variables;
        private int at = 0;

        Expression(String text, int... variables) {
            this.text = text.replace(" ", "");
            this.variables = variables;
        }

        long value() {
            return sum();
        }

        private boolean next(char sign) {
            boolean there = at < text.length() && text.charAt(at) == sign;
            at += there ? 1 : 0;
            return there;
        }

        private long limited(long value) {
            return value > 1000000 ? 1000000 : value < -1000000 ? -1000000 : value;
        }

        private long sum() {
            long value = term();
            while (true) {
                if (next('+')) {
                    value = limited(value + term());
                } else if (next('-')) {
                    value = limited(value - term());
                } else {
                    return value;
                }
            }
        }

        private long term() {
            long value = factor();
            while (true) {
                if (next('*')) {
                    value = limited(value * factor());
                } else if (next('/')) {
                    long divisor = factor();
                    value = divisor == 0 ? 0 : limited(value / divisor);
                } else {
                    return value;
                }
            }
        }

        private long factor() {
            if (next('(')) {
                long value = sum();
                next(')');
                return value;
            }
            String[] names = {"weight", "low", "high"};
            for (int k = 0; k < 3; k++) {
                if (text.startsWith(names[k], at)) {
                    at += names[k].length();
                    return variables[k];
                }
            }
            int end = at;
            while (end < text.length() && Character.isDigit(text.charAt(end))) {
                end++;
            }
            long value = Long.parseLong(text.substring(at, end));
            at = end;
            return value;
        }
    }

    int cutCost(int set) {
        int sum = 0;
        for (Edge edge : edges) {
            boolean low = (set & 1 << edge.low) != 0;
            boolean high = (set & 1 << edge.high) != 0;
            sum += low != high ? costOf(edge) : 0;
        }
        return sum;
    }

    int costOfLabels(int[] given) {
        int sum = 0;
        for (Edge edge : edges) {
            sum += given[edge.low] != given[edge.high] ? costOf(edge) : 0;
        }
        return sum;
    }

    int cost() {
        return costOfLabels(labels);
    }

    int cut() {
        int set = 0;
        for (int e = 0; e < edges.size(); e++) {
            set += labels[edges.get(e).low] != labels[edges.get(e).high] ? 1 << e : 0;
        }
        return set;
    }

    // ---- Separating and isolating ----

    boolean separates(int set) {
        int[] part = new int[n];
        for (int v = 0; v < n; v++) {
            part[v] = v;
        }
        for (int e = 0; e < edges.size(); e++) {
            if ((set >> e & 1) == 0) {
                int from = part[edges.get(e).low];
                int to = part[edges.get(e).high];
                for (int v = 0; v < n; v++) {
                    part[v] = part[v] == from ? to : part[v];
                }
            }
        }
        for (int a = 0; a < n; a++) {
            for (int b = 0; b < a; b++) {
                if (terminal[a] && terminal[b] && part[a] == part[b]) {
                    return false;
                }
            }
        }
        return true;
    }

    /** Least cut cost, and the intersection and the union of all the sets that have it. */
    int[] least(int with, int without) {
        int[] least = {Integer.MAX_VALUE, 0, 0};
        for (int set = 0; set < 1 << n; set++) {
            if ((set & with) != with || (set & without) != 0) {
                continue;
            }
            int cost = cutCost(set);
            if (cost < least[0]) {
                least = new int[] {cost, set, set};
            } else if (cost == least[0]) {
                least[1] &= set;
                least[2] |= set;
            }
        }
        return least;
    }

    int isolatingValue(int t) {
        return least(1 << t, terminals() - (1 << t))[0];
    }

    int isolatingSet(int t) {
        return least(1 << t, terminals() - (1 << t))[1];
    }

    int lowerBound() {
        int sum = 0;
        for (int t = 0; t < n; t++) {
            sum += terminal[t] ? isolatingValue(t) : 0;
        }
        return sum / 2 + sum % 2;
    }

    int dearest() {
        int dearest = -1;
        for (int t = n - 1; t >= 0; t--) {
            if (terminal[t] && (dearest < 0 || isolatingValue(t) >= isolatingValue(dearest))) {
                dearest = t;
            }
        }
        return dearest;
    }

    int unionCut() {
        int dearest = dearest();
        int union = 0;
        for (int t = 0; t < n; t++) {
            for (int e = 0; terminal[t] && t != dearest && e < edges.size(); e++) {
                int ends = 1 << edges.get(e).low | 1 << edges.get(e).high;
                union |= Integer.bitCount(isolatingSet(t) & ends) == 1 ? 1 << e : 0;
            }
        }
        return union;
    }

    int unionCost() {
        int union = unionCut();
        int sum = 0;
        for (int e = 0; e < edges.size(); e++) {
            sum += (union >> e & 1) * costOf(edges.get(e));
        }
        return sum;
    }

    int[] unionLabels() {
        int[] given = new int[n];
        Arrays.fill(given, dearest());
        for (int t = 0; t < n; t++) {
            for (int v = 0; terminal[t] && t != given[dearest()] && v < n; v++) {
                given[v] = (isolatingSet(t) >> v & 1) == 1 ? t : given[v];
            }
        }
        return given;
    }

    /** The groups by terminal, and behind them the number of rounds. */
    int[] groups() {
        int[] groups = new int[n + 1];
        for (int t = 0; t < n; t++) {
            groups[t] = terminal[t] ? 1 << t : 0;
        }
        int[] before = null;
        while (terminals() != 0 && (before == null || !Arrays.equals(before, 0, n, groups, 0, n))) {
            before = groups.clone();
            for (int t = 0; t < n; t++) {
                int others = 0;
                for (int other = 0; other < n; other++) {
                    others |= other == t ? 0 : groups[other];
                }
                groups[t] = terminal[t] ? least(groups[t], others)[2] : 0;
            }
            groups[n]++;
        }
        return groups;
    }

    int fixed(int v) {
        int[] groups = groups();
        for (int t = 0; t < n; t++) {
            if ((groups[t] >> v & 1) == 1) {
                return t;
            }
        }
        return -1;
    }

    // ---- Searches ----

    int[] exact() {
        int[] best = new int[n];
        Arrays.fill(best, -1);
        if (terminals() == 0) {
            return best;
        }
        int[] digits = new int[n];
        int least = Integer.MAX_VALUE;
        // counts through all words over the vertices, the first vertex in front
        while (true) {
            boolean fits = true;
            for (int v = 0; v < n; v++) {
                fits &= terminal[digits[v]] && (!terminal[v] || digits[v] == v);
            }
            if (fits && costOfLabels(digits) < least) {
                least = costOfLabels(digits);
                best = digits.clone();
            }
            int last = n - 1;
            while (last >= 0 && !stepped(digits, last)) {
                last--;
            }
            if (last < 0) {
                return best;
            }
        }
    }

    /** The next terminal for v, or back to the first one that it may have. */
    private boolean stepped(int[] digits, int v) {
        for (int next = digits[v] + 1; next < n; next++) {
            if (terminal[next] && (!terminal[v] || next == v)) {
                digits[v] = next;
                return true;
            }
        }
        digits[v] = 0;
        while (!terminal[digits[v]] || terminal[v] && digits[v] != v) {
            digits[v]++;
        }
        return false;
    }

    int exactCost() {
        return terminals() == 0 ? 0 : costOfLabels(exact());
    }

    int price(int t) {
        NaiveCut without = copy();
        without.terminal[t] = false;
        return exactCost() - without.exactCost();
    }

    /** The lengths of the shortest ways between all vertices; -1 if there is none. */
    private int[][] ways() {
        int[][] way = new int[n][n];
        for (int[] row : way) {
            Arrays.fill(row, -1);
        }
        for (int v = 0; v < n; v++) {
            way[v][v] = 0;
        }
        for (Edge edge : edges) {
            way[edge.low][edge.high] = 10000 / costOf(edge);
            way[edge.high][edge.low] = 10000 / costOf(edge);
        }
        for (int over = 0; over < n; over++) {
            for (int a = 0; a < n; a++) {
                for (int b = 0; b < n; b++) {
                    int sum = way[a][over] + way[over][b];
                    boolean there = way[a][over] >= 0 && way[over][b] >= 0;
                    if (there && (way[a][b] < 0 || sum < way[a][b])) {
                        way[a][b] = sum;
                    }
                }
            }
        }
        return way;
    }

    int nearest(int v) {
        int[] way = ways()[v];
        int nearest = -1;
        for (int t = 0; t < n; t++) {
            if (terminal[t] && way[t] >= 0 && (nearest < 0 || way[t] < way[nearest])) {
                nearest = t;
            }
        }
        return nearest;
    }

    int distance(int v) {
        return nearest(v) < 0 ? -1 : ways()[v][nearest(v)];
    }

    int[] nearestLabels() {
        int[] given = new int[n];
        for (int v = 0; v < n; v++) {
            given[v] = nearest(v);
        }
        return given;
    }

    float ratio() {
        if (exactCost() == 0) {
            return cost() == 0 ? 1.0f : -1.0f;
        }
        return (float) cost() / exactCost();
    }

    float meanCost() {
        float mean = 0.0f;
        int k = terminalCount();
        for (Edge edge : edges) {
            if (k >= 2 && terminal[edge.low] && terminal[edge.high]) {
                mean += costOf(edge);
            } else if (k >= 2) {
                mean += (float) costOf(edge) * (k - 1) / k;
            }
        }
        return mean;
    }

    /** Vertex, terminal and cost. */
    int[] bestMove() {
        int[] best = {-1, -1, -1};
        for (int v = n - 1; v >= 0; v--) {
            for (int t = n - 1; t >= 0; t--) {
                if (!terminal[v] && terminal[t] && labels[v] != t) {
                    int[] given = labels.clone();
                    given[v] = t;
                    if (best[0] < 0 || costOfLabels(given) <= best[2]) {
                        best = new int[] {v, t, costOfLabels(given)};
                    }
                }
            }
        }
        return best;
    }

    int improve(int most) {
        remember();
        for (int moves = 0; moves < most; moves++) {
            int[] best = bestMove();
            if (best[0] < 0 || best[2] >= cost()) {
                return moves;
            }
            labels[best[0]] = best[1];
        }
        return most;
    }

    // ---- Changes ----

    int use(int[] given) {
        remember();
        labels = given;
        return cost();
    }

    int setLabel(int v, int t) {
        remember();
        labels[v] = t;
        return cost();
    }

    int setWeight(int e, int weight) {
        remember();
        Edge old = edges.set(e, new Edge(edges.get(e).low, edges.get(e).high, weight));
        return old.weight;
    }

    boolean hasEdge(int a, int b) {
        for (Edge edge : edges) {
            if (edge.low == Math.min(a, b) && edge.high == Math.max(a, b)) {
                return true;
            }
        }
        return false;
    }

    int addEdge(int a, int b, int weight) {
        remember();
        edges.add(new Edge(a, b, weight));
        return edges.size() - 1;
    }

    int removeEdge(int e) {
        remember();
        edges.remove(e);
        return edges.size();
    }

    int setTerminal(int v, boolean is) {
        remember();
        for (int other = 0; other < n; other++) {
            if (terminal[v] && !is && labels[other] == v) {
                labels[other] = -1;
            }
        }
        labels[v] = is ? v : labels[v];
        terminal[v] = is;
        return terminalCount();
    }

    long checksum() {
        List<Integer> parts = new ArrayList<>(List.of(n, terminals()));
        for (Edge edge : edges) {
            parts.addAll(List.of(edge.low, edge.high, edge.weight));
        }
        for (int v = 0; v < n; v++) {
            parts.add(labels[v]);
        }
        parts.add(cost());
        long sum = 0;
        for (int part : parts) {
            sum = 31 * sum + part;
        }
        return sum;
    }
}
