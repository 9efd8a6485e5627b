import java.util.Map;
import java.util.Random;
import java.util.TreeMap;

/**
 * Runs drawn at will (always the same ones) in which most calls have something to answer: words of few
 * onsets and rests, so that slips meet words and one another; makings that weigh every kind; and what is
 * said comes from the row that is asked about. RandomRunsTest asks at will, and is often refused.
 */
public final class DenseRunsTest {
    private static final int RUNS = 150;
    private static final String[] ONSETS = {"", "b", "s", "sh", "t", "str", "ssss"};
    private static final String[] RESTS = {"", "a", "at", "ash", "o", "eat", "ibis"};
    private static final Map<String, Integer> TELLING = new TreeMap<>();

    private final Random random;
    private final Texts texts;
    private final Pair pair = new Pair();
    private int row = 0;

    private DenseRunsTest(int seed) {
        random = new Random(seed);
        texts = new Texts(random);
    }

    public static void main(String[] args) {
        int wrong = 0;
        int calls = 0;
        for (int seed = 1; seed <= RUNS && wrong == 0; seed++) {
            DenseRunsTest run = new DenseRunsTest(seed);
            run.go();
            wrong += run.pair.wrong;
            calls += run.pair.calls.size();
        }
        System.out.println(calls + " calls in dense runs, " + wrong + " wrong; above 1 were " + TELLING);
        if (wrong != 0 || isThin()) {
            System.exit(1);
        }
    }

    /** The runs are worth something only while each of these calls often has more than 1 to answer. */
    private static boolean isThin() {
        for (String name : new String[] {"ways", "odds", "told", "better", "kinds", "far", "frame", "apart", "next",
            "reals", "wish", "lean", "meant", "mostly", "thrown"}) {
            if (TELLING.getOrDefault(name, 0) < 50) {
                System.out.println(name + " is seldom above 1");
                return true;
            }
        }
        return false;
    }

    private void ask(String name, Object... arguments) {
        if (pair.call(name, arguments) > 1) {
            TELLING.merge(name, 1, Integer::sum);
        }
    }

    private void go() {
        int words = 4 + random.nextInt(27);
        for (int i = 0; i < words; i++) {
            addWord();
        }
        int rows = 2 + random.nextInt(11);
        for (int i = 0; i < rows; i++) {
            addRow();
        }
        for (int k = 0; k < 4; k++) {
            pair.making(k, weighing());
        }
        if (random.nextInt(4) > 0) {
            pair.ear(weighing());
        }
        while (pair.calls.size() < 450 && pair.wrong == 0) {
            sayAndAsk();
        }
    }

    private void addWord() {
        String letters = ONSETS[random.nextInt(ONSETS.length)] + RESTS[random.nextInt(RESTS.length)];
        pair.word(letters, random.nextInt(2), random.nextInt(2), 1 + random.nextInt(99));
    }

    private void addRow() {
        int[] given = new int[1 + random.nextInt(6)];
        for (int i = 0; i < given.length; i++) {
            given[i] = random.nextInt(Math.max(1, pair.model.words.size()));
        }
        pair.row(given);
    }

    /** A text with a few statements at will, then one or two for (nearly) every kind. */
    private String weighing() {
        StringBuilder text = new StringBuilder(random.nextInt(3) == 0 ? texts.sound(2) : "");
        String[] sums = {"often", "own", "gap + 1", "far * 7", "1 + sort", "place + 2", "words", "900 + often", "3"};
        for (String kind : Model.KINDS) {
            if (random.nextInt(5) == 0) {
                text.append(kind).append(' ').append(random.nextInt(1100)).append(" when real;");
            }
            if (random.nextInt(12) > 0) {
                text.append(kind).append(' ').append(sums[random.nextInt(sums.length)]).append(" when all;");
            }
        }
        return text.toString();
    }

    private void sayAndAsk() {
        row = random.nextInt(Math.max(1, pair.model.rows.size()));
        int many = Math.max(1, pair.model.takings(row));
        switch (random.nextInt(8)) {
            case 0 -> pair.call("say", row, random.nextInt(4), random.nextInt() >>> 1);
            case 1 -> pair.call("recall", random.nextInt(20));
            case 2 -> hearTheSaidOf(random.nextInt(many));
            default -> pair.call("tell", row, random.nextInt(many));
        }
        for (int i = 0; i < 8; i++) {
            askOfTheSaid();
        }
        if (random.nextInt(3) > 0) {
            pair.call("note", row);
        }
        for (int i = 0; i < 4; i++) {
            askOfTheList();
        }
        change();
    }

    private void hearTheSaidOf(int k) {
        if (pair.model.isRow(row)) {
            pair.hear(pair.model.all(row).get(k).said());
        }
    }

    private void askOfTheSaid() {
        int making = random.nextInt(4);
        int kind = random.nextInt(9);
        boolean above = random.nextBoolean();
        switch (random.nextInt(9)) {
            case 0 -> ask("ways", row, -1);
            case 1 -> ask("ways", row, kind);
            case 2 -> ask("odds", row, making, above);
            case 3, 4 -> ask("told", row, making, kind, above);
            case 5 -> ask("meant", random.nextInt(5) - 1);
            case 6 -> ask("mostly", row, making);
            case 7 -> ask("wish", row, making, random.nextInt(3), above);
            default -> ask("lean", row, making, kind, above);
        }
    }

    private void askOfTheList() {
        int making = random.nextInt(4);
        int kind = random.nextInt(9);
        switch (random.nextInt(9)) {
            case 0 -> ask("thrown", making);
            case 1 -> ask("better", making, random.nextInt(4));
            case 2 -> ask("kinds", kind);
            case 3 -> ask("far", random.nextBoolean());
            case 4 -> ask("frame", random.nextBoolean());
            case 5 -> ask("apart", row, making, random.nextInt(4));
            case 6 -> ask("next");
            case 7 -> ask("reals", row, kind, random.nextBoolean());
            default -> ask("never", making, kind);
        }
    }

    private void change() {
        switch (random.nextInt(30)) {
            case 0 -> addWord();
            case 1 -> addRow();
            case 2 -> pair.making(random.nextInt(4), weighing());
            case 3 -> pair.ear(weighing());
            case 4 -> pair.call("undo");
            default -> {
            }
        }
    }
}
