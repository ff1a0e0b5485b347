import java.util.LinkedHashMap;
import java.util.Map;
import java.util.Set;
import java.util.TreeSet;

/** Counts the answers of a test's run, and prints those that are not the ones that are due. */
final class Due {
    private static final int MOST_PRINTED = 40;
    private static final Map<String, Integer> SENTENCES = new LinkedHashMap<>();
    private static final Set<String> BROKEN = new TreeSet<>();
    private static int passed = 0;
    private static int failed = 0;
    private static String sentence = "";

    private Due() {
    }

    /** What comes now tests this sentence of the document, until the next one is told. */
    static void sentence(String words) {
        if (SENTENCES.putIfAbsent(words, 0) != null) {
            throw new IllegalStateException("told twice: " + words);
        }
        sentence = words;
    }

    static void due(String what, long got, long want) {
        SENTENCES.computeIfPresent(sentence, (words, answers) -> answers + 1);
        if (got == want) {
            passed++;
            return;
        }
        failed++;
        BROKEN.add(sentence);
        if (failed <= MOST_PRINTED) {
            String where = sentence.isEmpty() ? "" : "[" + sentence + "] ";
            System.out.println(where + what + " answered " + got + ", due is " + want);
        }
    }

    static boolean hasFailed() {
        return failed > 0;
    }

    /** A test of the sentence told last did not come to its end. */
    static void cutOff() {
        failed++;
        BROKEN.add(sentence);
    }

    /** The sentences told, each with how many answers were tested. */
    static Map<String, Integer> sentences() {
        return SENTENCES;
    }

    /** The sentences of which an answer was not the one that is due. */
    static Set<String> broken() {
        return BROKEN;
    }

    static void end(String test) {
        sentence = "";
        SENTENCES.forEach((words, answers) -> due("no answer tested: " + words, Math.min(answers, 1), 1));
        String told = SENTENCES.isEmpty() ? "" : " on " + SENTENCES.size() + " sentences";
        System.out.println(test + ": " + passed + " answers as due, " + failed + " not" + told);
        if (failed > 0) {
            System.exit(1);
        }
    }
}
