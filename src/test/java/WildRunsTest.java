import java.lang.reflect.InvocationTargetException;
import java.lang.reflect.Method;
import java.lang.reflect.Modifier;
import java.util.ArrayList;
import java.util.Arrays;
import java.util.Comparator;
import java.util.List;
import java.util.Random;

/**
 * Every call with numbers from all over, the greatest and the least among them, on empty and on filled
 * drawers: no call throws, and each answer is the Model's. Some objects are used far beyond their 512
 * calls: there the answers are free, but still nothing may throw.
 */
public final class WildRunsTest {
    private static final int RUNS = 80;
    private static final int LONG_RUNS = 10;
    private static final int[] EDGES = {Integer.MIN_VALUE, Integer.MIN_VALUE + 1, -65536, -256, -3, -2, -1, 0, 1, 2, 3,
        4, 5, 6, 8, 9, 10, 11, 12, 13, 19, 20, 21, 29, 30, 31, 98, 99, 100, 101, 127, 128, 255, 256, 1000, 1024, 2080,
        2099, 2100, 2101, 65535, 1 << 30, Integer.MAX_VALUE - 1, Integer.MAX_VALUE};
    private static final Method[] FACE = face();

    private final Random random;

    private WildRunsTest(int seed) {
        random = new Random(seed);
    }

    public static void main(String[] args) throws ReflectiveOperationException {
        int wrong = 0;
        int calls = 0;
        for (int seed = 1; seed <= RUNS && wrong == 0; seed++) {
            Pair pair = new Pair();
            new WildRunsTest(seed).go(pair);
            wrong += pair.wrong;
            calls += pair.calls.size();
        }
        for (int seed = 1; seed <= LONG_RUNS; seed++) {
            wrong += new WildRunsTest(-seed).goOn();
        }
        System.out.println(calls + " wild calls, " + wrong + " wrong");
        if (wrong != 0 || FACE.length != 37) {
            System.exit(1);
        }
    }

    private static Method[] face() {
        List<Method> found = new ArrayList<>();
        for (Method m : SlipDrawer.class.getDeclaredMethods()) {
            if (Modifier.isPublic(m.getModifiers())) {
                found.add(m);
            }
        }
        // The order in which Java tells them is not always the same.
        found.sort(Comparator.comparing(Method::getName));
        return found.toArray(new Method[0]);
    }

    private void go(Pair pair) {
        if (random.nextInt(4) > 0) {
            fill(pair);
        }
        while (pair.calls.size() < 480 && pair.wrong == 0) {
            Method method = FACE[random.nextInt(FACE.length)];
            pair.call(method.getName(), arguments(method));
        }
    }

    private void fill(Pair pair) {
        String[] words = {"cat", "hat", "at", "sh", "oh", "strength", "aeiouaei", "bat", "hot", "b"};
        for (String word : words) {
            pair.word(word, random.nextInt(2), random.nextInt(2), 1 + random.nextInt(99));
        }
        for (int i = 0; i < 4; i++) {
            pair.row(random.nextInt(10), random.nextInt(10), random.nextInt(10));
            pair.row(random.nextInt(10));
        }
        Texts texts = new Texts(random);
        pair.making(0, "none 1 when all; early often when all; swap 1000 * far when all; near 2 when all;");
        pair.making(random.nextInt(4), texts.sound(6));
        pair.ear(texts.sound(3));
        for (int i = 0; i < 6; i++) {
            pair.call("tell", random.nextInt(8), random.nextInt(9));
            pair.call("note", random.nextInt(8));
        }
    }

    /** A run of 5000 calls, without the Model: 1 if one throws. */
    private int goOn() throws ReflectiveOperationException {
        Pair pair = new Pair();
        fill(pair);
        for (int i = 0; i < 5000; i++) {
            Method method = FACE[random.nextInt(FACE.length)];
            Object[] arguments = arguments(method);
            try {
                method.invoke(pair.drawer, arguments);
            } catch (InvocationTargetException e) {
                System.out.println(method.getName() + Arrays.toString(arguments) + " threw " + e.getCause());
                return 1;
            }
        }
        return pair.wrong;
    }

    private Object[] arguments(Method method) {
        Class<?>[] types = method.getParameterTypes();
        Object[] found = new Object[types.length];
        for (int i = 0; i < found.length; i++) {
            found[i] = types[i] == boolean.class ? (Object) random.nextBoolean() : (Object) number();
        }
        return found;
    }

    private int number() {
        switch (random.nextInt(8)) {
            case 0:
                return random.nextInt();
            case 1:
                return 1 << random.nextInt(32);
            case 2, 3:
                return EDGES[random.nextInt(EDGES.length)];
            default:
                return random.nextInt(6) - 1;
        }
    }
}
