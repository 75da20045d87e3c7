import java.lang.reflect.InvocationTargetException;
import java.lang.reflect.Method;
import java.util.Arrays;
import java.util.Comparator;
import java.util.HashSet;
import java.util.Set;

/**
 * The document sentence by sentence: each test begins with the sentence that it is about, and has the number of the promise
 * in its name (p05_atMostSixty). No sentence of the promises and the Terms may be left without a test.
 */
public final class EdgesTest {
    private static final Class<?>[] PARTS = {EdgesOfTrays.class, EdgesOfSlips.class, EdgesOfTexts.class, EdgesOfDeeds.class, EdgesOfLines.class, EdgesOfRows.class,
        EdgesOfFuture.class, EdgesOfYears.class};

    private EdgesTest() {
    }

    public static void main(String[] args) throws ReflectiveOperationException {
        Set<Integer> tested = new HashSet<>();
        int tests = 0;
        for (Class<?> part : PARTS) {
            Method[] methods = part.getDeclaredMethods();
            Arrays.sort(methods, Comparator.comparing(Method::getName));
            for (Method method : methods) {
                if (method.getName().matches("p\\d\\d_\\w+")) {
                    run(method);
                    tested.add(Integer.parseInt(method.getName().substring(1, 3)));
                    tests++;
                }
            }
        }
        Edges.CHECKS.about("the document");
        for (int promise = 1; promise <= Doc.PROMISES; promise++) {
            Edges.CHECKS.due("a test of promise " + promise, tested.contains(promise), true);
        }
        for (int part = 0; part <= Doc.PROMISES; part++) {
            String left = Edges.DOC.left(part);
            Edges.CHECKS.due("what is not tested of part " + part + ": '" + left + "'", left.length(), 0);
        }
        System.out.println(tests + " tests of sentences");
        Edges.CHECKS.end();
    }

    private static void run(Method test) throws ReflectiveOperationException {
        try {
            test.invoke(null);
        } catch (InvocationTargetException e) {
            Edges.CHECKS.due(test.getName() + " came to an end: " + e.getCause(), false, true);
        }
    }
}
