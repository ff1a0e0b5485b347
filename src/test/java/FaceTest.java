import java.io.IOException;
import java.lang.management.ManagementFactory;
import java.lang.reflect.Field;
import java.lang.reflect.Method;
import java.lang.reflect.Modifier;
import java.nio.file.Files;
import java.nio.file.Path;
import java.util.List;
import java.util.Set;
import java.util.TreeSet;
import java.util.regex.Matcher;
import java.util.regex.Pattern;

/** The class's face, and what can be seen of LANGUAGE.md from outside; told the source's path. */
public final class FaceTest {
    private static final Set<String> FACE = Set.of("int write(int)", "int wipe()", "int fault()",
            "int lay()", "int person(int,int)", "int name(int,int)", "int stout(int,int)",
            "int calls(int,int,int)", "int pass(int)", "int say(int,int,int)", "int mend(int)",
            "int undo()", "int behind(int,int,int)", "int homeless(int)", "int load(int,int)",
            "int out(int,int,int,int)", "int rooms(int)", "int game(int,int,int,int)",
            "int see(int,int,int,int)", "int forget()", "int said(int,int)", "int whose(int,int)",
            "long chance(int,int,int,int)", "int year(int,int,int)", "int keep()", "int back()",
            "int count(int)");
    // What LANGUAGE.md leaves out, or what would answer a call by what the machine throws.
    private static final List<String> FORBIDDEN = List.of("\\bimport\\b", "\\bpackage\\b", "->", "::",
            "\\btry\\b", "\\bcatch\\b", "\\bfinally\\b", "\\bthrow\\b", "\\bassert\\b", "\\bsynchronized\\b",
            "\\bnative\\b", "\\bSystem\\b", "\\bThread\\b", "\\bRandom\\b", "Exact\\b", "\\bstatic \\{",
            "\\bequals\\b", "\\bhashCode\\b", "\\btoString\\b", "\\bdouble\\b", "\\bwhile\\b", "\" *\\+|\\+ *\"");

    private FaceTest() {
    }

    public static void main(String[] args) throws IOException {
        members();
        source(Files.readString(Path.of(args[0])));
        callsMakeNothing();
        Due.end("FaceTest");
    }

    private static void members() {
        Class<?> face = LodgingNames.class;
        Due.due("public and final", face.getModifiers() & (Modifier.PUBLIC | Modifier.FINAL),
                Modifier.PUBLIC | Modifier.FINAL);
        Due.due("constructors", face.getDeclaredConstructors().length, 1);
        Set<String> names = new TreeSet<>();
        Set<String> open = new TreeSet<>();
        for (Method m : face.getDeclaredMethods()) {
            if (Modifier.isPrivate(m.getModifiers())) {
                names.add(m.getName());
                continue;
            }
            String told = m.toString().replace("public ", "").replace("LodgingNames.", "");
            open.add(told);
            Due.due("in the document's face: " + told, FACE.contains(told) ? 1 : 0, 1);
        }
        Due.due("methods of the face", open.size(), FACE.size());
        for (Class<?> inside : face.getDeclaredClasses()) {
            Due.due(inside + " is static", inside.getModifiers() & Modifier.STATIC, Modifier.STATIC);
            Due.due("fields of " + inside, Math.min(20, inside.getDeclaredFields().length), inside.getDeclaredFields().length);
            for (Method m : inside.getDeclaredMethods()) {
                names.add(m.getName());
            }
        }
        for (String told : open) {
            String name = told.substring(told.indexOf(' ') + 1, told.indexOf('('));
            Due.due("a method inside called " + name, names.contains(name) ? 1 : 0, 0);
        }
        Set<String> constants = new TreeSet<>();
        for (Field f : face.getDeclaredFields()) {
            if (!Modifier.isPrivate(f.getModifiers())) {
                constants.add(f.getName());
            }
            if (Modifier.isStatic(f.getModifiers())) {
                Due.due(f + " is final", f.getModifiers() & Modifier.FINAL, Modifier.FINAL);
            }
        }
        Due.due("constants " + constants, constants.equals(Set.of("BAD", "NO", "FULL", "NONE")) ? 1 : 0, 1);
    }

    private static void source(String text) {
        String code = text.replaceAll("(?s)/\\*.*?\\*/", "").replaceAll("//[^\n]*", "");
        for (String word : FORBIDDEN) {
            Matcher m = Pattern.compile(word).matcher(code);
            Due.due("in the source: " + word, m.find() ? 1 : 0, 0);
        }
        // Rows are read and written by at and put alone, and placeAt; each looks at the place.
        Matcher index = Pattern.compile("\\w+\\[(\\w+)\\]").matcher(code);
        int indexed = 0;
        while (index.find()) {
            indexed += index.group(1).matches("MOST_\\w+|\\d+") ? 0 : 1;
        }
        Due.due("places in the source where a row is indexed", indexed, 6);
    }

    /** The calls share one room with all others, so what they make is kept at nothing. */
    private static void callsMakeNothing() {
        com.sun.management.ThreadMXBean bean =
                (com.sun.management.ThreadMXBean) ManagementFactory.getThreadMXBean();
        // Ten objects, for one is good for 512 calls only.
        LodgingNames[] ports = new LodgingNames[10];
        for (int k = 0; k < ports.length; k++) {
            ports[k] = new LodgingNames();
            allCalls(ports[k]);
        }
        long id = Thread.currentThread().getId();
        long before = bean.getThreadAllocatedBytes(id);
        for (int k = 0; k < 100; k++) {
            allCalls(ports[k % ports.length]);
        }
        long made = bean.getThreadAllocatedBytes(id) - before;
        // One small object a round would be 1600 bytes; the bean itself makes some.
        Due.due("bytes made by 100 rounds of all calls, over 1000: " + made, made > 1000 ? 1 : 0, 0);
    }

    private static void allCalls(LodgingNames x) {
        x.write('q');
        x.fault();
        x.lay();
        x.wipe();
        x.person(0, 3);
        x.name(0, 0);
        x.stout(0, 0);
        x.calls(0, 1, 0);
        x.pass(1);
        x.say(0, 1, 0);
        x.mend(0);
        x.undo();
        x.behind(40, 0, 0);
        x.homeless(0);
        x.load(0, 0);
        x.out(0, 0, 20, 0);
        x.rooms(0);
        x.game(0, 1, 10, 0);
        x.see(0, 0, 1, 0);
        x.said(0, 1);
        x.forget();
        x.whose(0, 0);
        x.chance(1, 0, 5, 0);
        x.year(5, 60, 0);
        x.keep();
        x.back();
        x.count(3);
    }
}
