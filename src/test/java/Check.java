import java.io.IOException;
import java.nio.file.Files;
import java.nio.file.Path;

/** Counts the answers that are not as due, and makes objects from setup texts. */
final class Check {
    interface Call {
        long answer();
    }

    private static int asked = 0;
    private static int wrong = 0;
    private static String sentence = "";
    private static int askedBefore = 0;
    private static String document = null;

    /**
     * The answers that follow stand for these words of the document. They have to be in it word for
     * word, so that a document that changes shows which checks it changes.
     */
    static void sentence(String words) {
        closeSentence();
        sentence = "[" + words + "] ";
        askedBefore = asked;
        if (!document().isEmpty() && !document().contains(words)) {
            wrong("is not in the document");
        }
    }

    private static void closeSentence() {
        if (!sentence.isEmpty() && asked == askedBefore) {
            wrong("has no answer that stands for it");
        }
    }

    /** Its words with single spaces; no words if the document is not where the tests run. */
    private static String document() {
        if (document == null) {
            Path file = Path.of("..", "shared", "DOC.md");
            try {
                document = Files.exists(file) ? Files.readString(file).replaceAll("\\s+", " ") : "";
            } catch (IOException e) {
                document = "";
            }
        }
        return document;
    }

    private static void wrong(String what) {
        wrong++;
        System.out.println(sentence + what);
    }

    static void same(String what, double got, double want) {
        asked++;
        if (got != want) {
            wrong(what + " answered " + got + ", due is " + want);
        }
    }

    static void sameLong(String what, long got, long want) {
        asked++;
        if (got != want) {
            wrong(what + " answered " + got + ", due is " + want);
        }
    }

    static void sameText(String what, String got, String want) {
        asked++;
        if (!got.equals(want)) {
            wrong(what + " answered " + got + ", due is " + want);
        }
    }

    static void is(String what, boolean holds) {
        sameText(what, holds ? "true" : "false", "true");
    }

    static void fails(String what, Class<? extends RuntimeException> due, Call call) {
        String got;
        try {
            got = String.valueOf(call.answer());
        } catch (RuntimeException e) {
            got = e.getClass().getName();
        }
        sameText(what, got, due.getName());
    }

    static void noIndex(String what, Call call) {
        fails(what, IndexOutOfBoundsException.class, call);
    }

    static void noArgument(String what, Call call) {
        fails(what, IllegalArgumentException.class, call);
    }

    static void noState(String what, Call call) {
        fails(what, IllegalStateException.class, call);
    }

    static void end() {
        closeSentence();
        System.out.println(wrong + " of " + asked + " answers are not as due");
        if (wrong != 0 || asked == 0) {
            System.exit(1);
        }
    }

    /** Appends the text, with as many zero bytes behind it as the last call needs. */
    static void put(MultiwayCut cut, String text) {
        for (int at = 0; at < text.length(); at += 20) {
            int[] words = new int[5];
            for (int k = 0; k < 20; k++) {
                int value = at + k < text.length() ? text.charAt(at + k) & 255 : 0;
                words[k / 4] = words[k / 4] << 8 | value;
            }
            cut.append(words[0], words[1], words[2], words[3], words[4]);
        }
    }

    static int load(MultiwayCut cut, String text) {
        put(cut, text);
        return cut.load(text.length());
    }

    static MultiwayCut of(String text) {
        MultiwayCut cut = new MultiwayCut();
        int edges = load(cut, text);
        if (edges < 0) {
            wrong(text + " has the error " + edges + " at " + cut.errorOffset());
        }
        return cut;
    }

    static String labels(MultiwayCut cut) {
        StringBuilder text = new StringBuilder();
        for (int vertex = 0; vertex < cut.size(); vertex++) {
            text.append(vertex == 0 ? "" : " ").append(cut.label(vertex));
        }
        return text.toString();
    }
}
