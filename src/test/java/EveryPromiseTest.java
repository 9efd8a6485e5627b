import java.lang.reflect.Method;

/** Each promise has tests of its boundaries that bear its number. */
public final class EveryPromiseTest {
    private static final Class<?>[] TESTS = {WordsEdgesTest.class, MakingsEdgesTest.class, TakingsEdgesTest.class,
        WeightsEdgesTest.class, GaveEdgesTest.class, ListEdgesTest.class, PartingEdgesTest.class,
        ImageEdgesTest.class};

    public static void main(String[] args) {
        int[] tests = new int[39];
        for (Class<?> each : TESTS) {
            for (Method method : each.getDeclaredMethods()) {
                if (method.getName().startsWith("promise")) {
                    tests[Integer.parseInt(method.getName().substring(7, 9))]++;
                }
            }
        }
        int without = 0;
        for (int promise = 1; promise <= 38; promise++) {
            if (tests[promise] < 3) {
                without++;
                System.out.println("promise " + promise + " has " + tests[promise] + " tests of its boundaries");
            }
        }
        System.out.println("promises with too few tests: " + without);
        if (without != 0) {
            System.exit(1);
        }
    }
}
