import java.io.IOException;
import java.io.PrintStream;
import java.io.StringWriter;
import java.net.URL;
import java.net.URLClassLoader;
import java.nio.file.Files;
import java.nio.file.Path;
import java.util.ArrayList;
import java.util.List;
import java.util.Map;
import java.util.Set;
import java.util.TreeSet;
import java.util.concurrent.Callable;
import java.util.concurrent.ExecutorService;
import java.util.concurrent.Executors;
import java.util.concurrent.Future;
import javax.tools.JavaCompiler;
import javax.tools.ToolProvider;

/**
 * Breaks the class in each way that mutants.txt tells, one at a time, and looks whether the edge
 * test of the very sentence that is broken fails. Told: the source, mutants.txt, the folder of the
 * compiled tests, a folder to work in, and the edge tests' names.
 */
public final class Mutants {
    private record Edit(String anchor, String old, String put) {
        /** The source so edited; null if it has no such place. */
        String in(String source) {
            int from = anchor.isEmpty() ? 0 : source.indexOf(anchor);
            int place = from < 0 ? -1 : source.indexOf(old, from);
            return place < 0 ? null : source.substring(0, place) + put + source.substring(place + old.length());
        }

        @Override
        public String toString() {
            return old + "  =>  " + put;
        }
    }

    private record Mutant(String sentence, List<Edit> edits) {
        @Override
        public String toString() {
            return "[" + sentence + "] " + edits;
        }
    }

    private static final PrintStream OUT = System.out;
    private static final long MOST_MILLISECONDS = 30_000;

    private final String source;
    private final Path tests;
    private final Path work;
    private final List<String> names;

    private Mutants(String source, Path tests, Path work, List<String> names) {
        this.source = source;
        this.tests = tests;
        this.work = work;
        this.names = names;
    }

    public static void main(String[] args) throws Exception {
        String source = Files.readString(Path.of(args[0]));
        List<Mutant> mutants = read(Path.of(args[1]));
        List<String> names = List.of(args).subList(4, args.length);
        System.setOut(new PrintStream(PrintStream.nullOutputStream()));
        System.exit(new Mutants(source, Path.of(args[2]), Path.of(args[3]), names).go(mutants) ? 0 : 1);
    }

    private static List<Mutant> read(Path file) throws IOException {
        List<Mutant> all = new ArrayList<>();
        String sentence = "";
        String anchor = "";
        String old = "";
        for (String line : Files.readAllLines(file)) {
            String text = line.length() > 2 ? line.substring(2) : "";
            switch (line.isEmpty() ? ' ' : line.charAt(0)) {
                case '=': sentence = text; break;
                case '@': anchor = text; break;
                case '-':
                    all.add(new Mutant(sentence, new ArrayList<>()));
                    old = text;
                    break;
                case '&': old = text; break;
                case '+':
                    all.get(all.size() - 1).edits.add(new Edit(anchor, old, text));
                    anchor = "";
                    break;
                default: break;
            }
        }
        return all;
    }

    private boolean go(List<Mutant> mutants) throws Exception {
        Set<String> sentences = new TreeSet<>();
        Set<String> broken = test(work.resolve("whole"), source, sentences);
        if (!broken.isEmpty()) {
            OUT.println("the class itself is broken: " + broken);
            return false;
        }
        ExecutorService pool = Executors.newFixedThreadPool(Runtime.getRuntime().availableProcessors());
        List<Future<String>> answers = new ArrayList<>();
        for (int k = 0; k < mutants.size(); k++) {
            Mutant mutant = mutants.get(k);
            Path folder = work.resolve("m" + k);
            answers.add(pool.submit((Callable<String>) () -> tryOut(mutant, folder)));
        }
        int survived = 0;
        for (Future<String> answer : answers) {
            if (!answer.get().isEmpty()) {
                survived++;
                OUT.println(answer.get());
            }
        }
        pool.shutdown();
        for (Mutant mutant : mutants) {
            sentences.removeIf(words -> words.startsWith(mutant.sentence));
        }
        sentences.forEach(words -> OUT.println("no mutant breaks [" + words + "]"));
        OUT.println(mutants.size() + " mutants, " + survived + " of them not told by the sentence's own test");
        return survived == 0 && sentences.isEmpty();
    }

    /** What is wrong: nothing, if a test of the sentence fails. */
    private String tryOut(Mutant mutant, Path folder) throws Exception {
        String mutated = source;
        for (Edit edit : mutant.edits) {
            mutated = edit.in(mutated);
            if (mutated == null) {
                return "is not in the source: " + edit;
            }
        }
        Set<String> broken = test(folder, mutated, new TreeSet<>());
        if (broken == null) {
            return "does not compile: " + mutant;
        }
        boolean told = broken.stream().anyMatch(words -> words.startsWith(mutant.sentence));
        return told ? "" : "survives: " + mutant + ", other tests that fail: " + broken;
    }

    /** The sentences that the tests find broken in this source; null if it does not compile. */
    private Set<String> test(Path folder, String text, Set<String> sentences) throws Exception {
        Files.createDirectories(folder);
        Path file = folder.resolve("LodgingNames.java");
        Files.writeString(file, text);
        JavaCompiler javac = ToolProvider.getSystemJavaCompiler();
        boolean compiled = javac.getTask(new StringWriter(), null, null, List.of("-d", folder.toString()), null,
                javac.getStandardFileManager(null, null, null).getJavaFileObjects(file)).call();
        if (!compiled) {
            return null;
        }
        URL[] path = {folder.toUri().toURL(), tests.toUri().toURL()};
        Set<String> broken = new TreeSet<>();
        try (URLClassLoader loader = new URLClassLoader(path, ClassLoader.getPlatformClassLoader())) {
            Class<?> due = loader.loadClass("Due");
            for (String name : names) {
                Class<?> test = loader.loadClass(name);
                if (!endsInTime(() -> access(test, "all"))) {
                    access(due, "cutOff");
                    break;
                }
            }
            for (Object words : (Set<?>) access(due, "broken")) {
                broken.add((String) words);
            }
            for (Object words : ((Map<?, ?>) access(due, "sentences")).keySet()) {
                sentences.add((String) words);
            }
        }
        return broken;
    }

    /** False if it throws, or goes on for longer than a broken class may need. */
    private static boolean endsInTime(Callable<?> test) throws InterruptedException {
        boolean[] ended = {false};
        Thread thread = new Thread(() -> {
            try {
                test.call();
                ended[0] = true;
            } catch (Exception thrown) {
                ended[0] = false;
            }
        });
        thread.setDaemon(true);
        thread.start();
        thread.join(MOST_MILLISECONDS);
        return ended[0];
    }

    private static Object access(Class<?> type, String name) throws Exception {
        var method = type.getDeclaredMethod(name);
        method.setAccessible(true);
        return method.invoke(null);
    }
}
