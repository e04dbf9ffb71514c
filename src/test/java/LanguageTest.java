import java.io.IOException;
import java.lang.reflect.Constructor;
import java.lang.reflect.Field;
import java.lang.reflect.Method;
import java.lang.reflect.Modifier;
import java.nio.file.Files;
import java.nio.file.Path;
import java.util.Set;
import java.util.TreeSet;
import java.util.regex.Matcher;
import java.util.regex.Pattern;

/** The rules of LANGUAGE.md that a program can look at, and the document's face; run from the project's root. */
public final class LanguageTest {
    private static final Check CHECK = new Check("LanguageTest");
    private static final String FACE = "feed5 end1 plan0 fault1 count1 version2 job2 size1 least1 place2 times2 trees1 rank2 "
            + "holds2 singles2 head2 depth1 parts1 own1 shared2 links1 all0 by2 lean0 drain1 dearest1 same2 more2 from2 roots1 "
            + "without2 left2 done2 hand2 ends2 hands1 puts3 joins2 takes1 undo0 anew0";

    public static void main(String[] args) throws IOException {
        face();
        for (Class<?> inside : HeapVersions.class.getDeclaredClasses()) {
            inside(inside);
        }
        CHECK.due("classes beyond twelve", Math.max(0, HeapVersions.class.getDeclaredClasses().length + 1 - 12), 0);
        words(Files.readString(Path.of("src/main/java/HeapVersions.java")));
        CHECK.finish();
    }

    private static void face() {
        Class<?> c = HeapVersions.class;
        CHECK.due("public final class", c.getModifiers(), Modifier.PUBLIC | Modifier.FINAL);
        Set<String> due = new TreeSet<>(Set.of(FACE.split(" ")));
        for (Method method : c.getDeclaredMethods()) {
            if (Modifier.isPublic(method.getModifiers())) {
                String name = method.getName() + method.getParameterCount();
                CHECK.due("public " + name, due.remove(name) ? 1 : 0, 1);
                CHECK.due(name + " answers an int", method.getReturnType() == int.class ? 1 : 0, 1);
                CHECK.due(name + " is not static", Modifier.isStatic(method.getModifiers()) ? 1 : 0, 0);
            }
        }
        CHECK.due("methods that are not there: " + due, due.size(), 0);
        for (Constructor<?> constructor : c.getDeclaredConstructors()) {
            CHECK.due("constructor", constructor.getModifiers() * 10 + constructor.getParameterCount(), 10);
        }
        members(c, true);
    }

    private static void inside(Class<?> c) {
        CHECK.due(c + " is static", Modifier.isStatic(c.getModifiers()) ? 1 : 0, 1);
        CHECK.due(c + " is not public", Modifier.isPublic(c.getModifiers()) ? 1 : 0, 0);
        members(c, false);
    }

    private static void members(Class<?> c, boolean outer) {
        int fields = 0;
        for (Field field : c.getDeclaredFields()) {
            int modifiers = field.getModifiers();
            fields += Modifier.isStatic(modifiers) ? 0 : 1;
            CHECK.due(field + " is final, if static", Modifier.isStatic(modifiers) && !Modifier.isFinal(modifiers) ? 1 : 0, 0);
            boolean hidden = Modifier.isPrivate(modifiers) || field.getName().equals("NONE");
            CHECK.due(field + " is private", outer && !hidden ? 1 : 0, 0);
        }
        CHECK.due(c + " fields beyond twenty", Math.max(0, fields - 20), 0);
        for (Method method : c.getDeclaredMethods()) {
            CHECK.due(method + " parameters beyond seven", Math.max(0, method.getParameterCount() - 7), 0);
            int modifiers = method.getModifiers();
            boolean open = Modifier.isPublic(modifiers);
            CHECK.due(method + " is public or private", outer && !open && !Modifier.isPrivate(modifiers) ? 1 : 0, 0);
            boolean named = (" " + FACE).matches(".* " + method.getName() + "[0-9].*");
            CHECK.due(method + " has a name of its own", !open && named ? 1 : 0, 0);
        }
    }

    private static void words(String source) {
        String code = source.replaceAll("(?s)/\\*.*?\\*/", " ").replaceAll("//[^\n]*", " ").replaceAll("\"[^\"\n]*\"", "\"\"");
        Matcher matcher = Pattern.compile("\\b(throw|throws|try|catch|finally|synchronized|assert|import|package|protected|"
                + "volatile|native|transient|instanceof|System|Thread|Object|hashCode|equals|toString|record|yield|var)\\b"
                + "|->|::|Exact|@").matcher(code);
        while (matcher.find()) {
            CHECK.wrong("the word " + matcher.group() + " in the class");
        }
        int longest = 0;
        int begin = 0;
        String[] lines = source.split("\n");
        for (int i = 0; i < lines.length; i++) {
            if (lines[i].matches(" +(private |public |static )*(int|void|boolean|Heaps|Cells) \\w+\\(.*\\{")) {
                begin = i;
            }
            if (lines[i].matches(" {4,8}\\}")) {
                longest = Math.max(longest, i - begin + 1);
                begin = i;
            }
        }
        CHECK.due("lines of a method beyond sixty", Math.max(0, longest - 60), 0);
    }
}
