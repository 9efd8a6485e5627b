import java.lang.reflect.InvocationTargetException;
import java.lang.reflect.Method;
import java.nio.charset.StandardCharsets;
import java.util.Arrays;
import java.util.Comparator;
import java.util.function.Consumer;
import java.util.function.Supplier;

/** What the tests of boundaries share: named tests, things put in a drawer, looks from all sides. */
final class Desk {
    static final int NONE = SlipDrawer.NONE;
    static final int LEAST = Integer.MIN_VALUE;
    static final int MOST = Integer.MAX_VALUE;

    private static String test = "";
    private static int looks = 0;
    private static int wrong = 0;

    private Desk() {
    }

    // ---- named tests

    /** Runs each test of a class: the static methods whose names begin with their promise. */
    static void runAll(Class<?> tests) {
        Method[] methods = tests.getDeclaredMethods();
        Arrays.sort(methods, Comparator.comparing(Method::getName));
        int count = 0;
        for (Method method : methods) {
            if (method.getName().startsWith("promise")) {
                count++;
                run(method);
            }
        }
        System.out.println(count + " tests, " + looks + " answers looked at, " + wrong + " wrong");
        if (wrong != 0 || count == 0) {
            System.exit(1);
        }
    }

    private static void run(Method method) {
        test = method.getName();
        int before = looks;
        try {
            method.invoke(null);
        } catch (IllegalAccessException | InvocationTargetException e) {
            throw new IllegalStateException(test, e);
        }
        if (looks == before) {
            wrong++;
            System.out.println(test + " looks at nothing");
        }
    }

    static void due(String what, int got, int want) {
        looks++;
        if (got != want) {
            wrong++;
            System.out.println(test + ": " + what + " gave " + got + ", due is " + want);
        }
    }

    static void due(String what, boolean got, boolean want) {
        due(what, got ? 1 : 0, want ? 1 : 0);
    }

    static void due(String what, String got, String want) {
        looks++;
        if (!got.equals(want)) {
            wrong++;
            System.out.println(test + ": " + what + " gave '" + got + "', due is '" + want + "'");
        }
    }

    // ---- things put in a drawer

    /** Empties the tape and puts a text on it. */
    static void tape(SlipDrawer x, String text) {
        x.end(0);
        byte[] bytes = text.getBytes(StandardCharsets.ISO_8859_1);
        for (int from = 0; from < bytes.length; from += 20) {
            int[] n = new int[5];
            for (int i = 0; i < 20; i++) {
                n[i / 4] = n[i / 4] << 8 | (from + i < bytes.length ? bytes[from + i] & 255 : 'q');
            }
            x.feed(n[0], n[1], n[2], n[3], n[4]);
        }
        x.end(bytes.length);
    }

    static int word(SlipDrawer x, String letters, int sort, int sense, int often) {
        tape(x, letters);
        return x.word(sort, sense, often);
    }

    /** A word of sort 0 and sense 0. */
    static int word(SlipDrawer x, String letters) {
        return word(x, letters, 0, 0, 1);
    }

    static int row(SlipDrawer x, int... given) {
        int[] all = {NONE, NONE, NONE, NONE, NONE, NONE};
        System.arraycopy(given, 0, all, 0, given.length);
        return x.row(all[0], all[1], all[2], all[3], all[4], all[5]);
    }

    static int making(SlipDrawer x, int k, String text) {
        tape(x, text);
        return x.making(k);
    }

    static int ear(SlipDrawer x, String text) {
        tape(x, text);
        return x.ear();
    }

    static boolean hear(SlipDrawer x, String text) {
        tape(x, text);
        return x.hear();
    }

    /** Hears a text and notes it of a row. */
    static int note(SlipDrawer x, int row, String text) {
        hear(x, text);
        return x.note(row);
    }

    /** The byte that an image ends with, of those ahead of it. */
    static int lastByte(String ahead) {
        int check = 7;
        for (int i = 0; i < ahead.length(); i++) {
            check = (3 * check + ahead.charAt(i)) % 251;
        }
        return check;
    }

    static void imageTape(SlipDrawer x, String ahead) {
        tape(x, ahead + (char) lastByte(ahead));
    }

    static boolean on(SlipDrawer x, String ahead) {
        imageTape(x, ahead);
        return x.on();
    }

    /** Words of sort 0 and sense 0, and one row of them all. */
    static SlipDrawer rowOf(String... letters) {
        SlipDrawer x = new SlipDrawer();
        int[] numbers = new int[letters.length];
        for (int i = 0; i < letters.length; i++) {
            numbers[i] = word(x, letters[i]);
        }
        row(x, numbers);
        return x;
    }

    // ---- what a drawer tells

    static String said(SlipDrawer x) {
        StringBuilder text = new StringBuilder();
        for (int i = 0; x.letter(i) != NONE; i++) {
            text.append((char) x.letter(i));
        }
        return text.toString();
    }

    static String octets(SlipDrawer x) {
        StringBuilder text = new StringBuilder();
        for (int i = 0; x.octet(i) != NONE; i++) {
            text.append(x.octet(i)).append(' ');
        }
        return text.toString().trim();
    }

    /** All takings of a row that are of a kind (NONE: of any): kind place other 'said'; */
    static String takings(SlipDrawer x, int row, int kind) {
        StringBuilder text = new StringBuilder();
        for (int k = 0; k < x.takings(row); k++) {
            if (kind == NONE || x.taking(row, k, 0) == kind) {
                x.tell(row, k);
                text.append(x.taking(row, k, 0)).append(' ').append(x.taking(row, k, 1)).append(' ')
                    .append(x.taking(row, k, 2)).append(" '").append(said(x)).append("'; ");
            }
        }
        return text.toString().trim();
    }

    /** The number of the first taking of a row that is of a kind at a place with an other. */
    static int find(SlipDrawer x, int row, int kind, int place, int other) {
        for (int k = 0; k < x.takings(row); k++) {
            if (x.taking(row, k, 0) == kind && x.taking(row, k, 1) == place && x.taking(row, k, 2) == other) {
                return k;
            }
        }
        return NONE;
    }

    // ---- what stays

    /** A drawer with something of everything: a fault, an image older than the list, a tape. */
    static SlipDrawer full() {
        SlipDrawer x = new SlipDrawer();
        word(x, "cat", 0, 1, 10);
        word(x, "hat", 0, 1, 20);
        word(x, "dog", 1, 2, 30);
        word(x, "sh", 0, 1, 5);
        word(x, "oh", 2, 3, 7);
        row(x, 0, 1);
        row(x, 0, 2, 4);
        row(x, 1);
        making(x, 0, "none 4 when all; early 1 when all; near 2 when all; sense 3 when all;");
        making(x, 2, "trade gap when all; none 1 when all; lost own when all;");
        making(x, 3, "trade 1 when words > 4;");
        ear(x, "none 50 when all; near 100 when all; early 30 when all;");
        note(x, 0, "hat hat");
        x.image();
        note(x, 1, "dog cat oh");
        hear(x, "hat");
        making(x, 1, "none 1 wen all;");
        tape(x, "tape");
        return x;
    }

    /** A call leaves all of a drawer as it is, the tape too. */
    static void stays(String what, Supplier<SlipDrawer> scene, Consumer<SlipDrawer> call) {
        due(what + ", and what is there", look(scene, call), look(scene, x -> { }));
    }

    static void stays(String what, Consumer<SlipDrawer> call) {
        stays(what, Desk::full, call);
    }

    /** A call empties the tape, and leaves all else as it is. */
    static void emptiesTape(String what, Supplier<SlipDrawer> scene, Consumer<SlipDrawer> call) {
        due(what + ", and what is there", look(scene, call), look(scene, x -> x.end(0)));
    }

    static void emptiesTape(String what, Consumer<SlipDrawer> call) {
        emptiesTape(what, Desk::full, call);
    }

    private static String look(Supplier<SlipDrawer> scene, Consumer<SlipDrawer> call) {
        Supplier<SlipDrawer> made = () -> {
            SlipDrawer x = scene.get();
            call.accept(x);
            return x;
        };
        StringBuilder seen = new StringBuilder();
        lookAtCounts(made.get(), seen);
        lookAtTape(made.get(), seen);
        for (int row = 0; row < made.get().has(1); row++) {
            lookAtRow(made.get(), row, seen);
        }
        lookAtNotes(made.get(), seen);
        lookAtMakings(made.get(), seen);
        return seen.toString();
    }

    private static void lookAtCounts(SlipDrawer x, StringBuilder seen) {
        seen.append("has");
        for (int what = 0; what <= 5; what++) {
            seen.append(' ').append(x.has(what));
        }
        seen.append("; fault ").append(x.fault(0)).append(' ').append(x.fault(1));
        seen.append("; said '").append(said(x)).append("'; octets ").append(octets(x));
    }

    private static void lookAtTape(SlipDrawer x, StringBuilder seen) {
        int length = x.feed(0, 0, 0, 0, 0) - 20;
        if (length < 0) {
            length = 2100;
            while (!x.end(length)) {
                length--;
            }
        }
        x.end(Math.min(length, 100));
        boolean heard = x.hear();
        seen.append("; tape ").append(length).append(heard ? said(x) : "");
    }

    private static void lookAtRow(SlipDrawer x, int row, StringBuilder seen) {
        seen.append("; row ").append(row);
        for (int k = 0; k < x.takings(row); k++) {
            seen.append(" |");
            for (int what = 0; what <= 5; what++) {
                seen.append(' ').append(x.taking(row, k, what));
            }
            for (int making = 0; making < 4; making++) {
                seen.append(' ').append(x.weight(row, k, making));
            }
        }
    }

    private static void lookAtNotes(SlipDrawer x, StringBuilder seen) {
        for (int i = 0; i < x.has(3) && i < 4; i++) {
            seen.append("; note ").append(x.recall(i)).append(" '").append(said(x)).append('\'');
        }
    }

    private static void lookAtMakings(SlipDrawer x, StringBuilder seen) {
        for (int making = 0; making < 4; making++) {
            seen.append("; making ").append(making).append(' ').append(x.thrown(making));
            for (int kind = 0; kind <= 8; kind++) {
                seen.append(' ').append(x.never(making, kind));
            }
        }
    }
}
