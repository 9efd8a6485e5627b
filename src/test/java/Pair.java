import java.lang.reflect.InvocationTargetException;
import java.lang.reflect.Method;
import java.nio.charset.StandardCharsets;
import java.util.ArrayList;
import java.util.Arrays;
import java.util.HashMap;
import java.util.List;
import java.util.Map;

/** A SlipDrawer and a Model that are called alike; says where their answers differ. */
final class Pair {
    private static final Map<String, Method> REAL = methods(SlipDrawer.class);
    private static final Map<String, Method> MODEL = methods(Model.class);

    final SlipDrawer drawer = new SlipDrawer();
    final Model model = new Model();
    final List<String> calls = new ArrayList<>();
    int wrong = 0;

    private static Map<String, Method> methods(Class<?> of) {
        Map<String, Method> found = new HashMap<>();
        for (Method m : of.getDeclaredMethods()) {
            String name = m.getName();
            boolean plain = Arrays.stream(m.getParameterTypes()).allMatch(Class::isPrimitive);
            if (plain && !m.isSynthetic()) {
                found.put(name + "/" + m.getParameterCount(), m);
            }
        }
        return found;
    }

    /** Calls both; the answer (a boolean as 1 or 0) is SlipDrawer's. */
    int call(String name, Object... arguments) {
        String key = name + "/" + arguments.length;
        int got = number(REAL.get(key), drawer, arguments);
        int due = number(MODEL.get(key), model, arguments);
        String text = name + Arrays.toString(arguments).replace('[', '(').replace(']', ')') + " = " + got;
        calls.add(text);
        if (got != due) {
            wrong++;
            if (wrong == 1) {
                calls.forEach(System.out::println);
            }
            System.out.println(text + ", due is " + due);
        }
        return got;
    }

    private static int number(Method method, Object on, Object[] arguments) {
        try {
            Object answer = method.invoke(on, arguments);
            return answer instanceof Boolean b ? (b ? 1 : 0) : (Integer) answer;
        } catch (IllegalAccessException | InvocationTargetException e) {
            throw new IllegalStateException(method.getName() + Arrays.toString(arguments), e);
        }
    }

    /** Puts bytes on the tape, behind what is there. */
    void tape(byte[] bytes) {
        int there = model.tape.size();
        for (int from = 0; from < bytes.length; from += 20) {
            int[] n = new int[5];
            for (int i = 0; i < 20; i++) {
                int b = from + i < bytes.length ? bytes[from + i] & 255 : 32;
                n[i / 4] = n[i / 4] << 8 | b;
            }
            call("feed", n[0], n[1], n[2], n[3], n[4]);
        }
        call("end", there + bytes.length);
    }

    void tape(String text) {
        tape(text.getBytes(StandardCharsets.ISO_8859_1));
    }

    int word(String letters, int sort, int sense, int often) {
        tape(letters);
        return call("word", sort, sense, often);
    }

    int row(int... given) {
        int[] all = {-1, -1, -1, -1, -1, -1};
        System.arraycopy(given, 0, all, 0, given.length);
        return call("row", all[0], all[1], all[2], all[3], all[4], all[5]);
    }

    int making(int k, String text) {
        tape(text);
        int got = call("making", k);
        call("fault", 0);
        call("fault", 1);
        return got;
    }

    int ear(String text) {
        tape(text);
        int got = call("ear");
        call("fault", 0);
        call("fault", 1);
        return got;
    }

    int hear(String text) {
        tape(text);
        return call("hear");
    }

    String said() {
        StringBuilder text = new StringBuilder();
        int many = call("has", 4);
        for (int i = -1; i <= many; i++) {
            int b = call("letter", i);
            if (b >= 0) {
                text.append((char) b);
            }
        }
        return text.toString();
    }
}
