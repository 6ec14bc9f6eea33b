import java.lang.reflect.InvocationTargetException;
import java.lang.reflect.Method;
import java.lang.reflect.Modifier;
import java.util.Arrays;
import java.util.Comparator;
import java.util.List;
import java.util.Random;

/**
 * Promises 2 to 41: runs of 512 calls with arguments of every size, in whatever state. What a call throws
 * is an exception of its throws list itself, thus never one that the machine throws, and changes nothing.
 */
public final class WildCallsTest {
    private static final int RUNS = 1500;
    private static final int CALLS = 512;
    private static final int[] FAR = {
        Integer.MIN_VALUE, Integer.MIN_VALUE + 1, -1000000, -65536, -256, -33, -32, -31, -21, -20, -10, -9, 31, 32, 33, 63, 64,
        99, 100, 101, 255, 256, 511, 512, 680, 700, 701, 65535, 65536, 1 << 20, (1 << 20) - 1, (1 << 20) + 1, 1 << 30,
        Integer.MAX_VALUE - 1, Integer.MAX_VALUE,
    };
    private static final String[] TEXTS = {
        "graph 9;terminal 0;terminal 3;terminal 8;edge 0 1 5;edge 1 2 7;edge 2 3 9;edge 8 7 1;edge 7 1 2;edge 4 5 6;"
            + "load 1 99;load 2 5;cost weight*low/high-(low-high)*9999*9999*9999/(weight-5);",
        "graph 2;", "graph 2;edge 0 1 99;terminal 1;", "graph 5;terminal 0;terminal 1;terminal 2;terminal 3;terminal 4;",
        "graph 9;terminal 4;cost 0-9999*9999;edge 0 8 1;edge 4 0 1;", "graph 9;x", "graph 10;", "graph", "cost ((((((",
        "graph 3;cost ((((1))));edge 1 1 1;", "graph 3;terminal 99999999999999999999999;", "graph 3;\u00ff\u0080",
        full(),
    };

    private final Random random;
    private final MultiwayCut cut = new MultiwayCut();
    private int calls = 0;

    private WildCallsTest(int seed) {
        random = new Random(seed);
    }

    public static void main(String[] args) throws IllegalAccessException {
        Method[] methods = MultiwayCut.class.getDeclaredMethods();
        List<Method> face = Arrays.stream(methods)
            .filter(method -> Modifier.isPublic(method.getModifiers()))
            .sorted(Comparator.comparing(Method::getName)).toList();
        for (int seed = 0; seed < RUNS; seed++) {
            WildCallsTest test = new WildCallsTest(seed);
            // A call, two checksums and a text take no more than this.
            while (test.calls < CALLS - 40) {
                test.step(face.get(test.random.nextInt(face.size())));
            }
        }
        Check.end();
    }

    /** A graph with all 20 edges that it may have. */
    private static String full() {
        StringBuilder text = new StringBuilder("graph 9;terminal 2;terminal 6;");
        for (int edge = 0; edge < 20; edge++) {
            text.append("edge ").append(edge % 9).append(' ').append((edge % 9 + 1 + edge / 9) % 9).append(" 9;");
        }
        return text.toString();
    }

    private void step(Method method) throws IllegalAccessException {
        if (random.nextInt(30) == 0) {
            String text = TEXTS[random.nextInt(TEXTS.length)];
            cut.load(0);
            Check.load(cut, text);
            calls += 2 + (text.length() + 19) / 20;
        }
        Object[] values = new Object[method.getParameterCount()];
        for (int k = 0; k < values.length; k++) {
            values[k] = method.getParameterTypes()[k] == boolean.class ? (Object) random.nextBoolean() : (Object) value();
        }
        String what = method.getName() + Arrays.toString(values);
        long before = cut.checksum();
        int edges = cut.edgeCount();
        int errorBefore = cut.errorOffset();
        calls += 6;
        try {
            method.invoke(cut, values);
        } catch (InvocationTargetException e) {
            Class<?> thrown = e.getCause().getClass();
            Check.is(what + " throws " + thrown.getName(), Arrays.asList(method.getExceptionTypes()).contains(thrown));
            Check.sameLong(what + " leaves the checksum", cut.checksum(), before);
            Check.sameLong(what + " leaves the edges", cut.edgeCount(), edges);
            Check.sameLong(what + " leaves the error", cut.errorOffset(), errorBefore);
            calls += 2;
        }
    }

    private int value() {
        switch (random.nextInt(8)) {
            case 0: return FAR[random.nextInt(FAR.length)];
            case 1: return random.nextInt();
            case 2: return random.nextInt(1 << random.nextInt(21));
            default: return random.nextInt(14) - 2;
        }
    }
}
