import java.util.ArrayList;
import java.util.List;

/**
 * Tests of edges: each one names its promises and quotes the sentence of the document that it
 * tests, or a part of this sentence. At the end the quotes are compared with the document: each
 * must stand there, and no sentence may be without a test.
 */
final class Edges {
    static final int MIN = Integer.MIN_VALUE;
    static final int MAX = Integer.MAX_VALUE;

    private static final List<Sentence> SENTENCES = new ArrayList<>();

    private Edges() {
    }

    /** A sentence of the document. Promise 0 stands for the sections that all promises rest on. */
    private static final class Sentence {
        final int promise;
        final String text;
        boolean isTested = false;

        Sentence(int promise, String text) {
            this.promise = promise;
            this.text = text;
        }
    }

    /** A new run, whose title names the promises, as "16, 17", and the sentence. */
    static Run edge(String promises, String quote) {
        return new Run(title(promises, quote));
    }

    /** Notes that a sentence is tested; returns the title of the test. */
    static String title(String promises, String quote) {
        boolean isFound = false;
        for (Sentence sentence : SENTENCES) {
            if (belongs(sentence, promises) && sentence.text.contains(quote)) {
                sentence.isTested = true;
                isFound = true;
            }
        }
        if (!isFound) {
            Run.fail("promise " + promises + " does not say: " + quote);
        }
        return "promise " + promises + ", \"" + quote + "\"";
    }

    private static boolean belongs(Sentence sentence, String promises) {
        if (sentence.promise == 0) {
            return true;
        }
        for (String promise : promises.split(", ")) {
            if (sentence.promise == Integer.parseInt(promise)) {
                return true;
            }
        }
        return false;
    }

    /** Fails for each sentence that no test has quoted. */
    static void requireAll() {
        for (Sentence sentence : SENTENCES) {
            if (!sentence.isTested) {
                Run.fail("no test quotes promise " + sentence.promise + ": " + sentence.text);
            }
        }
        Run.same("sentences were found", SENTENCES.size() > 180, true);
    }

    /** Reads the sections 1 to 4 and the promises; each line of the document is a paragraph. */
    static void readDocument() {
        int promise = -1;
        for (String line : Texts.document()) {
            String text = line.trim();
            if (text.startsWith("== ")) {
                promise = text.charAt(3) <= '4' ? 0 : -1;
            } else if (text.startsWith("## Promise ")) {
                promise = Integer.parseInt(text.substring(11, text.indexOf(':')));
            } else if (text.startsWith("## ")) {
                promise = -1;
            } else if (promise >= 0 && isProse(text)) {
                for (String sentence : text.replace("`", "").split("(?<=\\.) (?=[A-Z0-9(])")) {
                    addSentence(promise, sentence);
                }
            }
        }
    }

    private static boolean isProse(String line) {
        boolean isSignature = line.startsWith("`") && line.contains("(");
        return !line.isEmpty() && !isSignature && !line.startsWith("- `") && !line.startsWith("----");
    }

    /** Leaves out what is only a heading: "Inference." or "Operands." */
    private static void addSentence(int promise, String sentence) {
        if (sentence.contains(" ") && !sentence.equals("Slot values.")) {
            SENTENCES.add(new Sentence(promise, sentence));
        }
    }

    /** The checksum of these numbers, as promise 25 says. */
    static long sum(long... numbers) {
        long d = 37;
        for (long x : numbers) {
            d = d * 31 + x;
        }
        return d;
    }
}
