import java.util.Random;

/** Texts of makings and ears, drawn at will: sound ones, and ones with something spoilt. */
final class Texts {
    private static final String[] KINDS = Model.KINDS;
    private static final String[] NAMES = {"gap", "place", "words", "often", "own", "sort", "far"};
    private static final String[] ALL_TOKENS = {"none", "early", "late", "swap", "trade", "blend", "near", "sense",
        "lost", "when", "or", "and", "not", "all", "real", "gap", "place", "words", "often", "own", "sort", "far",
        "min", "max", "(", ")", "[", "]", "+", "-", "*", "/", "<", ">", "=", ",", ";", "7", "1234", "12345", "x",
        "nones", "A", "\u00e9", "\t", ".", "wh"};

    private final Random random;
    private final StringBuilder text = new StringBuilder();

    Texts(Random random) {
        this.random = random;
    }

    String sound(int most) {
        text.setLength(0);
        int statements = random.nextInt(most + 1);
        for (int i = 0; i < statements; i++) {
            put(KINDS[random.nextInt(9)]);
            sum(3);
            put("when");
            if (random.nextInt(3) == 0) {
                put("all");
            } else {
                test(3);
            }
            put(";");
        }
        if (random.nextInt(4) == 0) {
            text.append(random.nextBoolean() ? " " : "\n");
        }
        return text.toString();
    }

    String spoilt(int most) {
        StringBuilder spoilt = new StringBuilder(sound(most));
        int times = 1 + random.nextInt(2);
        for (int i = 0; i < times; i++) {
            int at = random.nextInt(spoilt.length() + 1);
            switch (random.nextInt(5)) {
                case 0 -> spoilt.setLength(at);
                case 1 -> spoilt.insert(at, ALL_TOKENS[random.nextInt(ALL_TOKENS.length)]);
                case 2 -> spoilt.insert(at, " " + ALL_TOKENS[random.nextInt(ALL_TOKENS.length)] + " ");
                case 3 -> spoilt.delete(at, Math.min(spoilt.length(), at + 1 + random.nextInt(4)));
                default -> spoilt.insert(at, (char) random.nextInt(256));
            }
        }
        return spoilt.toString();
    }

    /** A text with much open at once, often too much. */
    String deep() {
        text.setLength(0);
        put("none");
        put("1");
        put("when");
        int many = 4 + random.nextInt(5);
        StringBuilder closing = new StringBuilder();
        for (int i = 0; i < many; i++) {
            if (random.nextBoolean()) {
                put("not");
            } else {
                put("[");
                closing.append("]");
            }
        }
        int more = random.nextInt(4);
        for (int i = 0; i < more; i++) {
            put("(");
        }
        put("gap");
        for (int i = 0; i < more; i++) {
            put(")");
        }
        put("=");
        put(random.nextBoolean() ? "(0)" : "min(0,1)");
        text.append(closing);
        put(";");
        return text.toString();
    }

    private void put(String token) {
        boolean needs = text.length() > 0 && isWhole(text.charAt(text.length() - 1)) && isWhole(token.charAt(0));
        if (needs || random.nextInt(3) == 0) {
            text.append(random.nextInt(5) == 0 ? "\n " : " ");
        }
        text.append(token);
    }

    private static boolean isWhole(char c) {
        return c >= 'a' && c <= 'z' || c >= '0' && c <= '9';
    }

    private void test(int depth) {
        both(depth);
        while (random.nextInt(4) == 0) {
            put("or");
            both(depth);
        }
    }

    private void both(int depth) {
        fact(depth);
        while (random.nextInt(4) == 0) {
            put("and");
            fact(depth);
        }
    }

    private void fact(int depth) {
        int which = random.nextInt(8);
        if (which == 0 && depth > 0) {
            put("not");
            fact(depth - 1);
        } else if (which == 1 && depth > 0) {
            put("[");
            test(depth - 1);
            put("]");
        } else if (which == 2) {
            put("real");
        } else if (which == 3) {
            put("all");
        } else {
            sum(depth);
            put(new String[] {"<", ">", "="}[random.nextInt(3)]);
            sum(depth);
        }
    }

    private void sum(int depth) {
        product(depth);
        while (random.nextInt(3) == 0) {
            put(random.nextBoolean() ? "+" : "-");
            product(depth);
        }
    }

    private void product(int depth) {
        part(depth);
        while (random.nextInt(4) == 0) {
            put(random.nextBoolean() ? "*" : "/");
            part(depth);
        }
    }

    private void part(int depth) {
        int which = random.nextInt(10);
        if (which == 0 && depth > 0) {
            put("(");
            sum(depth - 1);
            put(")");
        } else if (which == 1 && depth > 0) {
            put(random.nextBoolean() ? "min" : "max");
            put("(");
            sum(depth - 1);
            put(",");
            sum(depth - 1);
            put(")");
        } else if (which < 6) {
            put(NAMES[random.nextInt(NAMES.length)]);
        } else {
            int most = new int[] {3, 30, 300, 10000}[random.nextInt(4)];
            put(String.valueOf(random.nextInt(most)));
        }
    }
}
