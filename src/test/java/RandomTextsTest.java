import java.util.Random;

/** Promises 3 and 4: texts that are right but for some random edits, each read by NaiveReader, too. */
public final class RandomTextsTest {
    private static final int TEXTS = 60000;
    private static final String[] PARTS = {
        "graph 5;", "terminal 1;", "edge 0 1 5;", "load 2 7;", "cost weight;", "cost(low+3)*high;", ";", " ", "  ", "1",
        "0", "9", "00", "99", "100", "9999", "10000", "(", "((", ")", "+", "-", "*", "/", "weight", "low", "high", "graph",
        "terminal", "edge", "load", "cost", "x", "Z", "\t", "\u00e4", "\u0000", "12345678901234567890", ".",
    };

    private final Random random = new Random(2026);

    public static void main(String[] args) {
        RandomTextsTest test = new RandomTextsTest();
        int[] codes = new int[7];
        for (int k = 0; k < TEXTS; k++) {
            codes[test.compare(test.text())]++;
        }
        // Otherwise the random texts would not show what they are for.
        for (int code : new int[] {0, 2, 3, 4, 5, 6}) {
            Check.sameLong("often enough " + code, Math.min(codes[code], 300), 300);
        }
        Check.end();
    }

    private int compare(String text) {
        NaiveReader reader = new NaiveReader(text);
        MultiwayCut cut = new MultiwayCut();
        Check.sameLong(text, Check.load(cut, text), reader.code == 0 ? reader.edges : reader.code);
        Check.sameLong("offset of " + text, cut.errorOffset(), reader.offset);
        return -reader.code;
    }

    private String text() {
        int n = 2 + random.nextInt(8);
        StringBuilder text = new StringBuilder("graph " + n + ";");
        int kind = random.nextInt(8);
        int turn = random.nextInt(100);
        for (int k = random.nextInt(kind < 3 ? 26 : 6); k > 0; k--) {
            text.append(kind == 0 ? terminal(n, turn + k) : kind < 3 ? edge(n, turn + k) : statement(n));
        }
        for (int k = random.nextInt(3); k > 0; k--) {
            edit(text);
        }
        return text.substring(0, Math.min(680, text.length()));
    }

    private String statement(int n) {
        switch (random.nextInt(4)) {
            case 0: return terminal(n, random.nextInt(n));
            case 1: return edge(n, random.nextInt(40));
            case 2: return "load " + random.nextInt(n) + " " + random.nextInt(101) + ";";
            default: return "cost " + sum(0) + ";";
        }
    }

    private String terminal(int n, int turn) {
        return "terminal " + turn % n + ";";
    }

    /** Another edge for each of the turns behind one another, as long as there is one. */
    private String edge(int n, int turn) {
        int a = turn % n;
        int b = random.nextInt(50) == 0 ? random.nextInt(n) : (a + 1 + turn / n % (n / 2)) % n;
        return "edge " + a + " " + b + " " + (1 + random.nextInt(99)) + ";";
    }

    private String sum(int depth) {
        String text = factor(depth);
        for (int k = random.nextInt(3); k > 0; k--) {
            text = text + "+-*/".charAt(random.nextInt(4)) + factor(depth);
        }
        return text;
    }

    private String factor(int depth) {
        if (depth < 6 && random.nextInt(3) != 0) {
            return "(" + sum(depth + 1) + ")";
        }
        return new String[] {"weight", "low", "high", "0", "9999"}[random.nextInt(5)];
    }

    private void edit(StringBuilder text) {
        int at = random.nextInt(text.length() + 1);
        int kind = random.nextInt(4);
        if (kind == 0) {
            text.delete(at, Math.min(text.length(), at + 1 + random.nextInt(3)));
        } else if (kind == 1) {
            text.setLength(at);
        } else {
            text.insert(at, PARTS[random.nextInt(PARTS.length)]);
        }
        if (text.length() == 0) {
            text.append(PARTS[random.nextInt(PARTS.length)]);
        }
    }
}
