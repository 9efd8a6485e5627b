import java.util.Random;

/** Runs of calls drawn at will (always the same ones), on a SlipDrawer and on the Model. */
public final class RandomRunsTest {
    private static final int RUNS = 400;

    private final Random random;
    private final Texts texts;
    private final Pair pair = new Pair();

    private RandomRunsTest(int seed) {
        random = new Random(seed);
        texts = new Texts(random);
    }

    public static void main(String[] args) {
        int wrong = 0;
        int calls = 0;
        for (int seed = 1; seed <= RUNS && wrong == 0; seed++) {
            RandomRunsTest run = new RandomRunsTest(seed);
            run.go();
            wrong += run.pair.wrong;
            calls += run.pair.calls.size();
            if (wrong > 0) {
                System.out.println("run " + seed + " has " + wrong + " wrong answers");
            }
        }
        System.out.println(calls + " calls in random runs, " + wrong + " wrong");
        if (wrong != 0) {
            System.exit(1);
        }
    }

    private void go() {
        fill();
        while (pair.calls.size() < 480 && pair.wrong == 0) {
            query();
        }
    }

    private void fill() {
        int words = new int[] {2, 5, 9, 30}[random.nextInt(4)];
        for (int i = 0; i < words; i++) {
            addWord();
        }
        int rows = random.nextInt(words > 9 ? 3 : 6);
        for (int i = 0; i < rows; i++) {
            addRow();
        }
        int makings = random.nextInt(4);
        for (int i = 0; i < makings; i++) {
            pair.making(random.nextInt(4), texts.sound(12));
        }
        if (random.nextBoolean()) {
            pair.ear(texts.sound(8));
        }
    }

    private void addWord() {
        String[] alphabets = {"abst", "aeb", "stae", "brktlaeiouy"};
        String alphabet = alphabets[random.nextInt(alphabets.length)];
        StringBuilder letters = new StringBuilder();
        int length = random.nextInt(20) == 0 ? random.nextInt(11) : 1 + random.nextInt(4);
        for (int i = 0; i < length; i++) {
            letters.append(alphabet.charAt(random.nextInt(alphabet.length())));
        }
        if (random.nextInt(60) == 0) {
            letters.append((char) random.nextInt(256));
        }
        boolean odd = random.nextInt(30) == 0;
        int sort = odd ? random.nextInt(8) - 2 : random.nextInt(2);
        int sense = odd ? random.nextInt(14) - 2 : random.nextInt(2) * 9;
        int often = odd ? random.nextInt(104) - 2 : 1 + random.nextInt(99);
        pair.word(letters.toString(), sort, sense, often);
    }

    private void addRow() {
        int words = pair.model.words.size();
        int length = 1 + random.nextInt(6);
        int[] given = new int[length];
        for (int i = 0; i < length; i++) {
            given[i] = random.nextInt(40) == 0 ? random.nextInt(40) - 3 : random.nextInt(Math.max(1, words));
        }
        pair.row(given);
    }

    private int row() {
        return random.nextInt(20) == 0 ? random.nextInt(20) - 3 : random.nextInt(Math.max(1, pair.model.rows.size()));
    }

    private int making() {
        return random.nextInt(12) == 0 ? random.nextInt(8) - 2 : random.nextInt(4);
    }

    private int kind() {
        return random.nextInt(12) - 1;
    }

    private int taking(int row) {
        int many = Math.max(1, pair.model.takings(row));
        return random.nextInt(20) == 0 ? random.nextInt(many + 4) - 2 : random.nextInt(many);
    }

    private void query() {
        int row = row();
        switch (random.nextInt(40)) {
            case 0 -> addWord();
            case 1 -> addRow();
            case 2 -> change();
            case 3 -> pair.call("has", random.nextInt(8) - 1);
            case 4 -> pair.call("fault", random.nextInt(4) - 1);
            case 5 -> pair.call("takings", row);
            case 6, 7, 8 -> pair.call("taking", row, taking(row), random.nextInt(8) - 1);
            case 9, 10, 11 -> pair.call("weight", row, random.nextInt(4) == 0 ? -1 : taking(row), making());
            case 12, 13 -> pair.call("tell", row, taking(row));
            case 14, 15 -> pair.call("say", row, making(), random.nextInt(8) == 0 ? -random.nextInt(3) : random.nextInt() >>> 1);
            case 16 -> hearSomething(row);
            case 17 -> pair.call("letter", random.nextInt(70) - 2);
            case 18 -> pair.call("ways", row, kind());
            case 19, 20 -> pair.call("odds", row, making(), random.nextBoolean());
            case 21 -> pair.call("told", row, making(), kind(), random.nextBoolean());
            case 22 -> pair.call("meant", making());
            case 23 -> pair.call("meant", -1);
            case 24 -> pair.call("mostly", row, making());
            case 25 -> pair.call("never", making(), kind());
            case 26, 27 -> pair.call("note", row);
            case 28 -> pair.call("recall", random.nextInt(12) - 1);
            case 29 -> pair.call("thrown", making());
            case 30 -> pair.call("better", making(), making());
            case 31 -> pair.call("kinds", kind());
            case 32 -> pair.call("far", random.nextBoolean());
            case 33 -> pair.call("frame", random.nextBoolean());
            case 34 -> pair.call("apart", row, making(), making());
            case 35 -> pair.call("next");
            case 36 -> pair.call("reals", row, kind(), random.nextBoolean());
            case 37 -> pair.call("wish", row, making(), random.nextInt(6) == 0 ? random.nextInt(14) - 2 : random.nextInt(2) * 9, random.nextBoolean());
            case 38 -> pair.call("lean", row, making(), kind(), random.nextBoolean());
            default -> images();
        }
    }

    private void change() {
        switch (random.nextInt(6)) {
            case 0, 1 -> pair.making(making(), texts.sound(9));
            case 2 -> pair.making(making(), texts.spoilt(3));
            case 3 -> pair.ear(texts.sound(9));
            case 4 -> pair.making(making(), texts.deep());
            default -> pair.call("undo");
        }
    }

    private void hearSomething(int row) {
        StringBuilder text = new StringBuilder(pair.model.said);
        if (random.nextBoolean() && pair.model.isRow(row)) {
            text = new StringBuilder(pair.model.all(row).get(random.nextInt(pair.model.takings(row))).said());
        }
        if (random.nextInt(4) == 0) {
            text.insert(random.nextInt(text.length() + 1), (char) ('a' + random.nextInt(26)));
        }
        if (random.nextInt(8) == 0) {
            text.insert(random.nextInt(text.length() + 1), " ");
        }
        if (random.nextInt(12) == 0) {
            text.insert(random.nextInt(text.length() + 1), (char) random.nextInt(256));
        }
        pair.hear(text.toString());
    }

    private void images() {
        int many = pair.call("image");
        pair.call("octet", many);
        pair.call("octet", -1);
        pair.call("octet", random.nextInt(many));
        pair.call("octet", many - 1);
        byte[] bytes = new byte[many];
        for (int i = 0; i < many; i++) {
            bytes[i] = (byte) pair.drawer.octet(i);
        }
        if (random.nextBoolean()) {
            int at = random.nextInt(many);
            bytes[at] = (byte) (random.nextBoolean() ? random.nextInt(256) : bytes[at] + 1);
        }
        if (random.nextInt(4) == 0) {
            int check = 7;
            for (int i = 0; i < many - 1; i++) {
                check = (3 * check + (bytes[i] & 255)) % 251;
            }
            bytes[many - 1] = (byte) check;
        }
        if (random.nextInt(3) == 0) {
            pair.call("undo");
        }
        if (bytes.length < 300) {
            pair.tape(bytes);
            pair.call("on");
            pair.call("has", 3);
        }
    }
}
