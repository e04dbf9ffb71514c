import java.io.IOException;
import java.lang.reflect.Method;
import java.net.URL;
import java.net.URLClassLoader;
import java.nio.file.Files;
import java.nio.file.Path;
import java.util.ArrayList;
import java.util.List;
import java.util.Set;
import java.util.TreeSet;
import java.util.concurrent.atomic.AtomicInteger;
import javax.tools.JavaCompiler;
import javax.tools.ToolProvider;

/**
 * Breaks one sentence of the document after the other in a copy of the class (broken.txt says how), and looks whether
 * the test of that sentence fails then. Run from the project's root, with the directory of the compiled tests and one
 * for the copies.
 */
public final class Broken {
    private static final Path CLASS = Path.of("src/main/java/HeapVersions.java");
    private static final Path RECORDS = Path.of("src/broken/broken.txt");
    private static final long PATIENCE = 20_000;

    private record Change(String anchor, String old, String fresh) {
    }

    private record Break(String test, List<Change> changes) {
    }

    private Broken() {
    }

    public static void main(String[] args) throws Exception {
        Path tests = Path.of(args[0]);
        Path copies = Path.of(args[1]);
        String source = Files.readString(CLASS);
        List<Break> breaks = records();
        Set<String> unbroken = names(tests);
        int held = 0;
        for (int i = 0; i < breaks.size(); i++) {
            String test = breaks.get(i).test;
            unbroken.remove(test);
            String what = failure(breaks.get(i), source, tests, copies.resolve("b" + i));
            if (what != null) {
                held++;
                System.out.println(test + " (break " + i + "): " + what + " " + breaks.get(i).changes);
            }
        }
        for (String test : unbroken) {
            System.out.println(test + ": no record breaks its sentence");
        }
        System.out.println(breaks.size() + " broken sentences, " + held + " of them not seen by their test");
        System.exit(held == 0 && unbroken.isEmpty() ? 0 : 1);
    }

    private static List<Break> records() throws IOException {
        List<Break> breaks = new ArrayList<>();
        String anchor = "";
        String old = "";
        for (String line : Files.readAllLines(RECORDS)) {
            String rest = line.length() > 3 ? line.substring(3) : "";
            if (line.startsWith("== ") && !line.contains("@@")) {
                breaks.add(new Break(rest, new ArrayList<>()));
            } else if (line.startsWith("@@ ")) {
                anchor = rest;
            } else if (line.startsWith("-- ")) {
                old = rest;
            } else if (line.startsWith("++")) {
                breaks.get(breaks.size() - 1).changes.add(new Change(anchor, old, rest));
            }
        }
        return breaks;
    }

    private static URLClassLoader loader(Path... places) throws IOException {
        URL[] urls = new URL[places.length];
        for (int i = 0; i < places.length; i++) {
            urls[i] = places[i].toUri().toURL();
        }
        return new URLClassLoader(urls, ClassLoader.getPlatformClassLoader());
    }

    private static Set<String> names(Path tests) throws Exception {
        try (URLClassLoader loader = loader(tests)) {
            Method names = loader.loadClass("EdgesTest").getMethod("names");
            return new TreeSet<>(List.of((String[]) names.invoke(null)));
        }
    }

    /** Null: the test saw it. */
    private static String failure(Break broken, String source, Path tests, Path copy) throws Exception {
        String text = source;
        for (Change change : broken.changes) {
            int anchor = text.indexOf(change.anchor);
            int at = anchor < 0 ? -1 : text.indexOf(change.old, anchor);
            if (at < 0 || text.indexOf(change.anchor, anchor + 1) >= 0) {
                return "the text to break is not there, or not once";
            }
            text = text.substring(0, at) + change.fresh + text.substring(at + change.old.length());
        }
        Files.createDirectories(copy);
        Path file = copy.resolve("HeapVersions.java");
        Files.writeString(file, text);
        JavaCompiler compiler = ToolProvider.getSystemJavaCompiler();
        if (compiler.run(null, null, null, "-nowarn", "-d", copy.toString(), file.toString()) != 0) {
            return "what is broken can't be compiled";
        }
        int wrong = wrong(broken.test, tests, copy);
        return wrong > 0 ? null : wrong == 0 ? "all answers are as due" : "there is no such test";
    }

    /** A test that does not end sees that something is broken. */
    private static int wrong(String test, Path tests, Path copy) throws Exception {
        AtomicInteger wrong = new AtomicInteger(Integer.MAX_VALUE);
        try (URLClassLoader loader = loader(copy, tests)) {
            Method wrongOf = loader.loadClass("EdgesTest").getMethod("wrongOf", String.class);
            Thread run = new Thread(() -> {
                try {
                    wrong.set((Integer) wrongOf.invoke(null, test));
                } catch (ReflectiveOperationException thrown) {
                    wrong.set(Integer.MAX_VALUE);
                }
            });
            run.setDaemon(true);
            run.start();
            run.join(PATIENCE);
        }
        return wrong.get();
    }
}
