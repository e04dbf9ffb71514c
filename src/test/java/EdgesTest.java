import java.io.IOException;
import java.lang.reflect.Method;

/** A test for each sentence of the document, named by its promise (p..) or term (t..) and its sentence. */
public final class EdgesTest {
    private EdgesTest() {
    }

    public static void main(String[] args) throws IOException {
        Check check = new Check("EdgesTest");
        int failed = 0;
        for (Method test : Edges.all()) {
            if (Edges.run(test, check) != 0) {
                failed++;
                System.out.println("EdgesTest: " + test.getName() + " failed: " + test.getAnnotation(Edge.class).says());
            }
        }
        Edges.quotes(check, Edges.sections());
        System.out.println("EdgesTest: " + Edges.all().size() + " sentences, " + failed + " of them failed");
        check.finish();
    }

    /** For the program that breaks the class: the names of all tests. */
    public static String[] names() {
        return Edges.all().stream().map(Method::getName).toArray(String[]::new);
    }

    /** For the program that breaks the class: how many answers of one test are not as due; -1: there is no such test. */
    public static int wrongOf(String name) {
        for (Method test : Edges.all()) {
            if (test.getName().equals(name)) {
                return Edges.run(test, new Check(""));
            }
        }
        return -1;
    }
}
