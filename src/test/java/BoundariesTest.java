import java.lang.reflect.InvocationTargetException;
import java.lang.reflect.Method;
import java.util.ArrayList;
import java.util.Comparator;
import java.util.List;

/**
 * The document's boundary cases, sentence by sentence: each method of the classes named here whose name begins with
 * "promise" and the promise's number is a test of one sentence, which stands above it in the document's own words.
 */
public final class BoundariesTest {
    private static final List<Class<?>> CASES = List.of(LevelsBoundaries.class, ActsBoundaries.class,
            FollowsBoundaries.class, RowsBoundaries.class, FloatingBoundaries.class, KeptBoundaries.class);
    private static final int PROMISES = 27;

    public static void main(String[] args) throws IllegalAccessException {
        Due due = new Due();
        int[] tests = new int[PROMISES + 1];
        for (Class<?> cases : CASES) {
            for (Method test : testsOf(cases)) {
                due.begin(test.getName());
                run(due, test);
                tests[numberOf(test)]++;
            }
        }
        due.begin("all");
        for (int promise = 1; promise <= PROMISES; promise++) {
            due.is("promise " + promise + " has a test", Math.min(1, tests[promise]), 1);
        }
        due.end();
    }

    /** By name, as Java tells methods in any order. */
    private static List<Method> testsOf(Class<?> cases) {
        List<Method> tests = new ArrayList<>();
        for (Method method : cases.getDeclaredMethods()) {
            if (method.getName().startsWith("promise")) {
                tests.add(method);
            }
        }
        tests.sort(Comparator.comparing(Method::getName));
        return tests;
    }

    private static int numberOf(Method test) {
        int at = "promise".length();
        return Integer.parseInt(test.getName().substring(at, at + 2));
    }

    private static void run(Due due, Method test) throws IllegalAccessException {
        try {
            test.invoke(null, due);
        } catch (InvocationTargetException thrown) {
            due.fails("threw " + thrown.getCause());
        }
    }
}
