import java.lang.reflect.Method;
import java.lang.reflect.Modifier;
import java.util.Arrays;
import java.util.Comparator;
import java.util.Set;
import java.util.TreeSet;
import java.util.regex.Matcher;
import java.util.regex.Pattern;

/**
 * Each sentence of the document that names an edge, by a test of its own: a static method named
 * by the promise's number. Found by their names, so that none is forgotten.
 */
public final class EdgesTest {
    private static final int PROMISES = 27;
    private static final Pattern NAME = Pattern.compile("promise(\\d+)[A-Z]\\w*");
    private static final Class<?>[] TESTS = {
        RowsEdges.class, RoundsEdges.class, PairsEdges.class, LaterEdges.class, TrialsEdges.class, JudgesEdges.class,
    };

    public static void main(String[] args) throws ReflectiveOperationException {
        Set<Integer> promises = new TreeSet<>();
        int tests = 0;
        for (Class<?> one : TESTS) {
            Method[] methods = one.getDeclaredMethods();
            Arrays.sort(methods, Comparator.comparing(Method::getName));
            for (Method method : methods) {
                Matcher name = NAME.matcher(method.getName());
                if (name.matches()) {
                    run(method);
                    promises.add(Integer.parseInt(name.group(1)));
                    tests++;
                }
            }
        }
        Edge.check.begin("all tests");
        for (int promise = 1; promise <= PROMISES; promise++) {
            Edge.check.holds("a test of promise " + promise, promises.contains(promise));
        }
        Edge.check.due("promises with tests", promises.size(), PROMISES);
        System.out.println("EdgesTest: " + tests + " tests");
        Edge.check.end();
    }

    private static void run(Method test) throws ReflectiveOperationException {
        Edge.check.begin(test.getName());
        boolean plain = Modifier.isStatic(test.getModifiers()) && test.getParameterCount() == 0;
        Edge.check.holds("a static method without parameters", plain);
        int before = Edge.check.asked();
        if (plain) {
            test.invoke(null);
        }
        Edge.check.holds("it asks something", Edge.check.asked() > before);
    }
}
