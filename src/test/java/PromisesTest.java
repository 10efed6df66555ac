import java.lang.reflect.Method;
import java.util.List;

/** Each promise has tests of its edges, named after it. */
public final class PromisesTest {
    private static final Check C = new Check("PromisesTest");
    private static final int PROMISES = 41;
    private static final List<Class<?>> EDGES = List.of(EdgeRowsTest.class, EdgeToldTest.class, EdgeDoneTest.class,
        EdgeForetoldTest.class, EdgeSearchTest.class, EdgeAskedTest.class);

    public static void main(String[] args) {
        int[] tests = new int[PROMISES + 1];
        for (Class<?> edges : EDGES) {
            for (Method one : edges.getDeclaredMethods()) {
                if (one.getName().matches("promise[0-9][0-9][A-Z].*")) {
                    tests[Integer.parseInt(one.getName().substring(7, 9))]++;
                }
            }
        }
        for (int promise = 1; promise <= PROMISES; promise++) {
            C.due("promise " + promise + " has tests of its edges", tests[promise] > 0 ? 1 : 0, 1);
        }
        C.end();
    }
}
