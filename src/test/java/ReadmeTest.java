import java.io.IOException;
import java.lang.reflect.Method;
import java.lang.reflect.Modifier;
import java.net.URL;
import java.net.URLClassLoader;
import java.nio.file.Files;
import java.nio.file.Path;
import java.util.ArrayList;
import java.util.List;
import java.util.regex.Matcher;
import java.util.regex.Pattern;
import javax.tools.ToolProvider;

/** README.md: its examples are compiled and answer as it says, and it names each call. */
public final class ReadmeTest {
    private static final Pattern BLOCK = Pattern.compile("(?s)```java\n(.*?)```");
    private static final Pattern ANSWERED = Pattern.compile("(?m)^(port\\.\\w+\\([^;]*\\)); *// (-?\\d+)");

    private ReadmeTest() {
    }

    public static void main(String[] args) throws Exception {
        String readme = Files.readString(Path.of("README.md"));
        List<String> calls = new ArrayList<>();
        List<Long> due = new ArrayList<>();
        Matcher row = ANSWERED.matcher(readme);
        while (row.find()) {
            calls.add(row.group(1));
            due.add(Long.valueOf(row.group(2)));
        }
        List<Long> got = run(source(readme));
        Due.due("answers of README.md's examples", got.size(), due.size());
        for (int k = 0; k < Math.min(got.size(), due.size()); k++) {
            Due.due("README.md: " + calls.get(k), got.get(k), due.get(k));
        }
        Due.due("enough examples in README.md: " + due.size(), Math.min(due.size(), 17), 17);
        namesEachCall(readme);
        Due.end("ReadmeTest");
    }

    /** A class that does what the examples do, one behind the other, and gathers the answers. */
    private static String source(String readme) {
        StringBuilder source = new StringBuilder(
                "public final class Examples {\npublic static void all(java.util.List<Long> got) {\n");
        Matcher block = BLOCK.matcher(readme);
        while (block.find()) {
            String gathered = ANSWERED.matcher(block.group(1)).replaceAll("got.add((long) $1); //");
            source.append("{\n").append(gathered).append("}\n");
        }
        return source.append("}\n}\n").toString();
    }

    private static List<Long> run(String source) throws Exception {
        List<Long> got = new ArrayList<>();
        Path folder = Files.createTempDirectory("readme");
        Path file = folder.resolve("Examples.java");
        try {
            Files.writeString(file, source);
            int failed = ToolProvider.getSystemJavaCompiler().run(null, null, null, "-cp",
                    System.getProperty("java.class.path"), "-d", folder.toString(), file.toString());
            Due.due("README.md's examples compiled", failed, 0);
            if (failed == 0) {
                callExamples(folder, got);
            }
        } finally {
            clear(folder);
        }
        return got;
    }

    private static void callExamples(Path folder, List<Long> got) throws Exception {
        try (URLClassLoader loader = new URLClassLoader(new URL[] {folder.toUri().toURL()})) {
            loader.loadClass("Examples").getMethod("all", List.class).invoke(null, got);
        }
    }

    private static void clear(Path folder) throws IOException {
        Files.deleteIfExists(folder.resolve("Examples.java"));
        Files.deleteIfExists(folder.resolve("Examples.class"));
        Files.delete(folder);
    }

    private static void namesEachCall(String readme) {
        for (Method m : LodgingNames.class.getDeclaredMethods()) {
            if (Modifier.isPublic(m.getModifiers())) {
                Due.due("README.md tells of " + m.getName(), readme.contains("`" + m.getName() + "(") ? 1 : 0, 1);
            }
        }
        Due.due("README.md names the command that runs the tests", readme.contains("    .ci/run\n") ? 1 : 0, 1);
    }
}
