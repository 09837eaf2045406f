import java.lang.reflect.InvocationTargetException;
import java.lang.reflect.Method;
import java.util.ArrayList;
import java.util.Arrays;
import java.util.Comparator;
import java.util.List;

/**
 * Each sentence of the document that names a boundary case, by a test of its own. A test is
 * a static method marked with {@link Says}, whose name is p, its promise's number in two
 * figures, and what it tests.
 */
public final class EdgeTest {
    private static final int PROMISES = 18;
    private static final List<Class<?>> EDGES = List.of(TextEdges.class, FaultEdges.class, RefusedEdges.class,
            CallEdges.class, UndoneEdges.class, CellEdges.class, ShownEdges.class, ChangedEdges.class,
            ImageEdges.class);

    private final Due due = new Due();
    private final int[] testsOfPromise = new int[PROMISES + 1];
    private int tests;
    private int broken;

    public static void main(String[] args) {
        EdgeTest all = new EdgeTest();
        for (Class<?> edges : EDGES) {
            all.runTestsOf(edges);
        }
        for (int promise = 1; promise <= PROMISES; promise++) {
            all.due.holds("promise " + promise + " has a test", all.testsOfPromise[promise] > 0);
        }
        System.out.println("EdgeTest: " + all.tests + " tests, " + all.broken + " broken");
        all.due.end("EdgeTest");
    }

    private void runTestsOf(Class<?> edges) {
        List<Method> methods = new ArrayList<>(Arrays.asList(edges.getDeclaredMethods()));
        methods.sort(Comparator.comparing(Method::getName));
        for (Method method : methods) {
            boolean isNamed = method.getName().matches("p[0-9][0-9][A-Z].*");
            boolean isMarked = method.isAnnotationPresent(Says.class);
            due.holds(method + " is marked if it is named as a test", isNamed == isMarked);
            if (isNamed && isMarked) {
                runTest(method);
            }
        }
    }

    private void runTest(Method method) {
        int before = due.wrong();
        int promise = Integer.parseInt(method.getName().substring(1, 3));
        due.holds(method + " names a promise", promise >= 1 && promise <= PROMISES);
        due.name(method.getName() + ": ");
        try {
            method.invoke(null, due);
        } catch (InvocationTargetException thrown) {
            due.holds("no call throws, but " + thrown.getCause(), false);
        } catch (IllegalAccessException closed) {
            due.holds("the test can be called, but " + closed, false);
        }
        due.name("");
        tests++;
        testsOfPromise[Math.min(Math.max(promise, 0), PROMISES)]++;
        if (due.wrong() > before) {
            broken++;
            System.out.println("  the document: " + method.getAnnotation(Says.class).value());
        }
    }
}
