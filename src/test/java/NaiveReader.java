import java.math.BigInteger;
import java.util.ArrayDeque;
import java.util.ArrayList;
import java.util.Deque;
import java.util.HashSet;
import java.util.List;
import java.util.Map;
import java.util.Set;
import java.util.regex.Matcher;
import java.util.regex.Pattern;

/**
 * Finds the first error of a setup text in two steps: where the grammar ends, by a stack of what is
 * due; and then, before that place, all the other errors, of which the first one counts.
 */
final class NaiveReader {
    private static final Pattern TOKEN = Pattern.compile(" *([0-9]+|[a-z]+|[^ ]|$)", Pattern.DOTALL);
    private static final BigInteger HUGE = BigInteger.valueOf(1000000);
    private static final Map<String, String> STATEMENTS = Map.of(
        "terminal", "terminal N ; more", "edge", "edge N N N ; more", "load", "load N N ; more", "cost", "cost sum ; more");

    private final List<String> tokens = new ArrayList<>();
    private final List<Integer> starts = new ArrayList<>();
    int code = 0;
    int offset = -1;
    int edges = 0;

    NaiveReader(String text) {
        Matcher matcher = TOKEN.matcher(text);
        int at = 0;
        while (at <= text.length() && matcher.find(at)) {
            tokens.add(matcher.group(1));
            starts.add(matcher.start(1));
            at = matcher.group(1).isEmpty() ? text.length() + 1 : matcher.end();
        }
        int end = grammarEnd();
        if (end < tokens.size()) {
            report(-2, end);
        }
        otherErrors(end);
    }

    private void report(int newCode, int token) {
        int newOffset = starts.get(token);
        if (offset < 0 || newOffset < offset || newOffset == offset && newCode > code) {
            code = newCode;
            offset = newOffset;
        }
    }

    private boolean isNumber(int token) {
        return token < tokens.size() && tokens.get(token).matches("[0-9]+");
    }

    private int number(int token) {
        return new BigInteger(tokens.get(token)).min(HUGE).intValue();
    }

    /** The first token that the grammar does not allow; beyond all tokens if there is none. */
    private int grammarEnd() {
        Deque<String> due = new ArrayDeque<>(List.of("graph", "N", ";", "more"));
        boolean costSeen = false;
        for (int token = 0; token < tokens.size(); token++) {
            String text = tokens.get(token);
            while (expand(due, text, isNumber(token), costSeen)) {
                continue;
            }
            String top = due.isEmpty() ? "" : due.pop();
            if (!(top.equals("N") ? isNumber(token) : top.equals(text))) {
                return token;
            }
            costSeen |= text.equals("cost");
        }
        return tokens.size();
    }

    /** Replaces the top by what it consists of, as the next token decides; false if the top is a token. */
    private boolean expand(Deque<String> due, String text, boolean number, boolean costSeen) {
        String top = due.isEmpty() ? "" : due.peek();
        String by;
        if (top.equals("more")) {
            boolean second = costSeen && text.equals("cost");
            by = text.isEmpty() || second ? "" : STATEMENTS.getOrDefault(text, "!");
        } else if (top.equals("sum")) {
            by = "term sums";
        } else if (top.equals("sums")) {
            by = text.equals("+") || text.equals("-") ? text + " term sums" : "";
        } else if (top.equals("term")) {
            by = "factor terms";
        } else if (top.equals("terms")) {
            by = text.equals("*") || text.equals("/") ? text + " factor terms" : "";
        } else if (top.equals("factor")) {
            by = number ? "N" : text.equals("(") ? "( sum )" : List.of("weight", "low", "high").contains(text) ? text : "!";
        } else {
            return false;
        }
        due.pop();
        String[] parts = by.isEmpty() ? new String[0] : by.split(" ");
        for (int k = parts.length - 1; k >= 0; k--) {
            due.push(parts[k]);
        }
        return true;
    }

    private void range(int token, int least, int most) {
        if (number(token) < least || number(token) > most) {
            report(-3, token);
        }
    }

    private void otherErrors(int end) {
        int n = end > 1 ? number(1) : 0;
        if (end > 1) {
            range(1, 2, 9);
        }
        Set<String> seen = new HashSet<>();
        int terminals = 0;
        for (int at = 3; at < end; at++) {
            String word = tokens.get(at);
            if (!tokens.get(at - 1).equals(";")) {
                continue;
            }
            int numbers = 0;
            while (at + numbers + 1 < end && isNumber(at + numbers + 1)) {
                numbers++;
            }
            if (word.equals("terminal")) {
                terminals++;
                tooMany(at, terminals, 5);
            }
            if (word.equals("edge")) {
                edges++;
                tooMany(at, edges, 20);
            }
            if (word.equals("cost")) {
                factors(at, end);
            } else {
                numbers(at, numbers, n, seen);
            }
        }
    }

    private void tooMany(int token, int count, int most) {
        if (count > most) {
            report(-5, token);
        }
    }

    private void numbers(int at, int numbers, int n, Set<String> seen) {
        String word = tokens.get(at);
        if (numbers > 0) {
            range(at + 1, 0, n - 1);
        }
        if (numbers > 0 && !word.equals("edge") && !seen.add(word + number(at + 1))) {
            report(-4, at + 1);
        }
        if (numbers > 1 && word.equals("load")) {
            range(at + 2, 0, 99);
        }
        if (numbers > 1 && word.equals("edge")) {
            int a = number(at + 1);
            int b = number(at + 2);
            range(at + 2, 0, n - 1);
            if (a == b || !seen.add("edge" + Math.min(a, b) + "," + Math.max(a, b))) {
                report(-4, at + 2);
            }
        }
        if (numbers > 2) {
            range(at + 3, 1, 99);
        }
    }

    private void factors(int at, int end) {
        int depth = 0;
        for (int token = at + 1; token < end && !tokens.get(token).equals(";"); token++) {
            if (isNumber(token)) {
                range(token, 0, 9999);
            }
            depth -= tokens.get(token).equals(")") ? 1 : 0;
            if (tokens.get(token).equals("(") && depth++ == 4) {
                report(-6, token);
            }
        }
    }
}
