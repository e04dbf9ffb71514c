import java.io.IOException;
import java.lang.reflect.InvocationTargetException;
import java.lang.reflect.Method;
import java.nio.file.Files;
import java.nio.file.Path;
import java.util.ArrayList;
import java.util.BitSet;
import java.util.Comparator;
import java.util.LinkedHashMap;
import java.util.List;
import java.util.Map;
import java.util.regex.Matcher;
import java.util.regex.Pattern;

/** Runs the tests that bear an Edge, and looks whether each word of the document stands in one of their sentences. */
final class Edges {
    private static final List<Class<?>> CLASSES =
            List.of(TextEdges.class, HeapEdges.class, JobEdges.class, TreeEdges.class, LinkEdges.class, HandEdges.class,
                    ActEdges.class);

    private Edges() {
    }

    static List<Method> all() {
        List<Method> tests = new ArrayList<>();
        for (Class<?> c : CLASSES) {
            for (Method method : c.getDeclaredMethods()) {
                if (method.isAnnotationPresent(Edge.class)) {
                    tests.add(method);
                }
            }
        }
        tests.sort(Comparator.comparing(Method::getName));
        return tests;
    }

    /** How many answers of one test are not as due; a call that throws is one, too. */
    static int run(Method test, Check check) {
        int before = check.wrongs();
        try {
            test.invoke(null, check);
        } catch (InvocationTargetException thrown) {
            check.wrong(test.getName() + " threw " + thrown.getCause());
        } catch (IllegalAccessException closed) {
            check.wrong(test.getName() + " can't be called");
        }
        return check.wrongs() - before;
    }

    /** The document's sections by the number of their promise or term (0: what it is), without their heads, blanks made one. */
    static Map<String, String> sections() throws IOException {
        String text = Files.readString(Path.of("../shared/DOC.md"));
        Map<String, String> sections = new LinkedHashMap<>();
        int use = text.indexOf("An object is used");
        sections.put("0", plain(text.substring(use, text.indexOf('\n', use))));
        int begin = text.indexOf("## Terms");
        int end = text.indexOf("## Promise 1:");
        String[] terms = text.substring(begin, end).split("(?m)^(?=I[IV]*\\. )");
        for (int i = 1; i < terms.length; i++) {
            int dot = terms[i].indexOf('.');
            sections.put(terms[i].substring(0, dot), plain(terms[i].substring(dot + 1)));
        }
        Matcher promise = Pattern.compile("(?ms)^## Promise (\\d+): [^\n]*\n(.*?)(?=^## |\\z)").matcher(text);
        while (promise.find()) {
            sections.put(promise.group(1), plain(promise.group(2).replaceAll("`[^`\n]+`:?", " ")));
        }
        return sections;
    }

    private static String plain(String text) {
        return text.replace("```text", " ").replace("```", " ").replaceAll("\\s+", " ").trim();
    }

    /** Each test quotes the document, is named by what it quotes, and nothing is left that none quotes. */
    static void quotes(Check check, Map<String, String> sections) {
        check.due("sections of the document", sections.size(), 47);
        Map<String, BitSet> quoted = new LinkedHashMap<>();
        for (String section : sections.keySet()) {
            quoted.put(section, new BitSet());
        }
        for (Method test : all()) {
            Edge edge = test.getAnnotation(Edge.class);
            String section = sections.getOrDefault(edge.of(), "");
            int at = section.indexOf(edge.says());
            check.due(test.getName() + ": the document says so in " + edge.of(), at >= 0 ? 1 : 0, 1);
            check.due(test.getName() + " is named by " + edge.of(), test.getName().startsWith(prefix(edge.of())) ? 1 : 0, 1);
            for (; at >= 0; at = section.indexOf(edge.says(), at + 1)) {
                quoted.get(edge.of()).set(at, at + edge.says().length());
            }
        }
        for (Map.Entry<String, String> section : sections.entrySet()) {
            String left = left(section.getValue(), quoted.get(section.getKey()));
            check.due("no test for what " + section.getKey() + " says: " + left, left.length(), 0);
        }
    }

    private static String prefix(String of) {
        return of.matches("\\d+") ? String.format("p%02d_", Integer.parseInt(of)) : "t" + of + "_";
    }

    /** The words that no quote covers; the signs between sentences need none. */
    private static String left(String section, BitSet quoted) {
        StringBuilder left = new StringBuilder();
        for (int i = 0; i < section.length(); i++) {
            left.append(quoted.get(i) ? ' ' : section.charAt(i));
        }
        String words = left.toString().replaceAll("\\s+", " ").trim();
        return words.matches("[ .,;:()]*") ? "" : words;
    }
}
