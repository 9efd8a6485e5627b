import java.math.BigInteger;
import java.util.ArrayList;
import java.util.Arrays;
import java.util.HashMap;
import java.util.LinkedHashMap;
import java.util.List;
import java.util.Map;

/**
 * The document once more, written plainly with the Java library and for no speed: the tests hold
 * SlipDrawer against it. It has the same calls as SlipDrawer.
 */
final class Model {
    static final String[] KINDS = {"none", "early", "late", "swap", "trade", "blend", "near", "sense", "lost"};

    record Word(String letters, int sort, int sense, int often) {
        String onset() {
            return letters.split("[aeiou]", -1)[0];
        }

        String rest() {
            return letters.substring(onset().length());
        }
    }

    /** A taking, with its changed words as they are said and the word from which is taken. */
    record Taking(int kind, int place, int other, String said, List<String> changed, String was, Word own, Word from) {
    }

    record Note(int row, String said) {
    }

    interface Sum {
        long of(Map<String, Integer> facts);
    }

    interface Test {
        boolean of(Map<String, Integer> facts);
    }

    record Statement(String kind, Sum sum, Test test) {
    }

    static final class Fault extends RuntimeException {
        private static final long serialVersionUID = 1L;
        final int kind;
        final int place;

        Fault(int kind, int place) {
            this.kind = kind;
            this.place = place;
        }
    }

    final List<Integer> tape = new ArrayList<>();
    final List<Word> words = new ArrayList<>();
    final List<List<Integer>> rows = new ArrayList<>();
    final List<List<Statement>> makings = new ArrayList<>(Arrays.asList(null, null, null, null));
    List<Statement> ear = null;
    int faultKind = 0;
    int faultPlace = -1;
    String said = "";
    List<Note> notes = new ArrayList<>();
    List<Integer> image = new ArrayList<>();

    // ---- the tape

    int feed(int a, int b, int c, int d, int e) {
        if (tape.size() > 2080) {
            return -1;
        }
        for (int n : new int[] {a, b, c, d, e}) {
            for (byte x : BigInteger.valueOf(n & 0xFFFFFFFFL | 1L << 40).toByteArray()) {
                tape.add(x & 255);
            }
            // the two bytes of the marking bit, which kept the leading zeros
            int from = tape.size() - 6;
            tape.remove(from);
            tape.remove(from);
        }
        return tape.size();
    }

    boolean end(int n) {
        if (n < 0 || n > tape.size()) {
            return false;
        }
        tape.subList(n, tape.size()).clear();
        return true;
    }

    private String takeTape() {
        StringBuilder text = new StringBuilder();
        for (int b : tape) {
            text.append((char) b);
        }
        tape.clear();
        return text.toString();
    }

    // ---- words and rows

    int word(int sort, int sense, int often) {
        String text = takeTape();
        boolean there = words.stream().anyMatch(w -> w.letters.equals(text));
        if (!text.matches("[a-z]{1,8}") || sort < 0 || sort > 4 || sense < 0 || sense > 9
            || often < 1 || often > 99 || there || words.size() == 30) {
            return -1;
        }
        words.add(new Word(text, sort, sense, often));
        return words.size() - 1;
    }

    int row(int a, int b, int c, int d, int e, int f) {
        List<Integer> row = new ArrayList<>(List.of(a, b, c, d, e, f));
        while (!row.isEmpty() && row.get(row.size() - 1) == -1) {
            row.remove(row.size() - 1);
        }
        if (row.isEmpty() || rows.size() == 12 || row.stream().anyMatch(w -> w < 0 || w >= words.size())) {
            return -1;
        }
        rows.add(row);
        return rows.size() - 1;
    }

    int has(int what) {
        int there = 0;
        for (List<Statement> m : makings) {
            there += m == null ? 0 : 1;
        }
        int[] all = {words.size(), rows.size(), there, notes.size(), said.length(), ear == null ? 0 : 1};
        return what < 0 || what > 5 ? -1 : all[what];
    }

    // ---- makings

    int making(int k) {
        String text = takeTape();
        if (k < 0 || k > 3) {
            return -2;
        }
        List<Statement> read = readOrFault(text);
        if (read == null) {
            return -1;
        }
        makings.set(k, read);
        return read.size();
    }

    int ear() {
        List<Statement> read = readOrFault(takeTape());
        if (read == null) {
            return -1;
        }
        ear = read;
        return read.size();
    }

    int fault(int what) {
        return what == 0 ? faultKind : what == 1 ? faultPlace : -1;
    }

    private List<Statement> readOrFault(String text) {
        try {
            List<Statement> read = new TextReader(text).all();
            faultKind = 0;
            faultPlace = -1;
            return read;
        } catch (Fault fault) {
            faultKind = fault.kind;
            faultPlace = fault.place;
            return null;
        }
    }

    /** Reads straight from the text, by trying what may stand next. */
    static final class TextReader {
        final String text;
        int at = 0;
        int open = 0;

        TextReader(String text) {
            this.text = text;
        }

        List<Statement> all() {
            List<Statement> found = new ArrayList<>();
            blanks();
            while (at < text.length()) {
                if (found.size() == 20) {
                    throw new Fault(5, at);
                }
                String kind = null;
                for (String k : KINDS) {
                    if (kind == null && tryWord(k)) {
                        kind = k;
                    }
                }
                if (kind == null) {
                    throw new Fault(1, at);
                }
                Sum sum = sum();
                need("when");
                Test test = test();
                need(";");
                found.add(new Statement(kind, sum, test));
            }
            return found;
        }

        void blanks() {
            while (at < text.length() && (text.charAt(at) == 32 || text.charAt(at) == 10)) {
                at++;
            }
        }

        boolean glued() {
            return at > 0 && String.valueOf(text.charAt(at - 1)).matches("[a-z0-9]");
        }

        String run(String letters) {
            int to = at;
            while (to < text.length() && letters.indexOf(text.charAt(to)) >= 0) {
                to++;
            }
            return text.substring(at, to);
        }

        boolean tryWord(String word) {
            if (glued() || !run("abcdefghijklmnopqrstuvwxyz").equals(word)) {
                return false;
            }
            at += word.length();
            blanks();
            return true;
        }

        boolean trySign(String sign) {
            if (!text.startsWith(sign, at)) {
                return false;
            }
            at += 1;
            blanks();
            return true;
        }

        boolean tryIt(String it) {
            return Character.isLetter(it.charAt(0)) ? tryWord(it) : trySign(it);
        }

        void need(String it) {
            if (!tryIt(it)) {
                throw new Fault(1, at);
            }
        }

        boolean tryOpen(String it) {
            int from = at;
            if (!tryIt(it)) {
                return false;
            }
            open++;
            if (open == 7) {
                throw new Fault(4, from);
            }
            return true;
        }

        Test test() {
            Test left = both();
            while (tryWord("or")) {
                Test first = left;
                Test second = both();
                left = f -> first.of(f) || second.of(f);
            }
            return left;
        }

        Test both() {
            Test left = fact();
            while (tryWord("and")) {
                Test first = left;
                Test second = fact();
                left = f -> first.of(f) && second.of(f);
            }
            return left;
        }

        Test fact() {
            if (tryOpen("not")) {
                Test inner = fact();
                open--;
                return f -> !inner.of(f);
            }
            if (tryOpen("[")) {
                Test inner = test();
                need("]");
                open--;
                return inner;
            }
            if (tryWord("all")) {
                return f -> true;
            }
            if (tryWord("real")) {
                return f -> f.get("real") == 1;
            }
            Sum left = sum();
            if (trySign("<")) {
                Sum right = sum();
                return f -> left.of(f) < right.of(f);
            }
            if (trySign(">")) {
                Sum right = sum();
                return f -> left.of(f) > right.of(f);
            }
            need("=");
            Sum right = sum();
            return f -> left.of(f) == right.of(f);
        }

        Sum sum() {
            Sum left = product();
            while (true) {
                Sum first = left;
                if (trySign("+")) {
                    Sum second = product();
                    left = f -> hold(first.of(f) + second.of(f));
                } else if (trySign("-")) {
                    Sum second = product();
                    left = f -> hold(first.of(f) - second.of(f));
                } else {
                    return left;
                }
            }
        }

        Sum product() {
            Sum left = part();
            while (true) {
                Sum first = left;
                if (trySign("*")) {
                    Sum second = part();
                    left = f -> hold(first.of(f) * second.of(f));
                } else if (trySign("/")) {
                    Sum second = part();
                    left = f -> second.of(f) == 0 ? 0 : (long) Math.floor((double) first.of(f) / second.of(f));
                } else {
                    return left;
                }
            }
        }

        Sum part() {
            for (String name : List.of("gap", "place", "words", "often", "own", "sort", "far")) {
                if (tryWord(name)) {
                    return f -> f.get(name);
                }
            }
            if (tryOpen("(")) {
                Sum inner = sum();
                need(")");
                open--;
                return inner;
            }
            for (String name : List.of("min", "max")) {
                if (tryWord(name)) {
                    if (!tryOpen("(")) {
                        throw new Fault(1, at);
                    }
                    Sum first = sum();
                    need(",");
                    Sum second = sum();
                    need(")");
                    open--;
                    boolean least = name.equals("min");
                    return f -> least ? Math.min(first.of(f), second.of(f)) : Math.max(first.of(f), second.of(f));
                }
            }
            String digits = run("0123456789");
            if (digits.isEmpty() || glued()) {
                throw new Fault(1, at);
            }
            if (digits.length() > 4) {
                throw new Fault(1, at + 4);
            }
            at += digits.length();
            blanks();
            int value = Integer.parseInt(digits);
            return f -> value;
        }

        static long hold(long value) {
            return value > 1000000 ? 1000000 : value < -1000000 ? -1000000 : value;
        }
    }

    // ---- takings

    private final Map<Integer, List<Taking>> listed = new HashMap<>();

    List<Taking> all(int row) {
        return listed.computeIfAbsent(100 * row + words.size(), key -> listAll(row));
    }

    private List<Taking> listAll(int row) {
        List<Taking> found = new ArrayList<>();
        List<Word> line = new ArrayList<>();
        for (int w : rows.get(row)) {
            line.add(words.get(w));
        }
        int n = line.size();
        found.add(new Taking(0, -1, -1, join(line, Map.of()), List.of(), "", null, null));
        for (int kind = 1; kind <= 4; kind++) {
            for (int i = 0; i < n; i++) {
                for (int j = 0; j < n; j++) {
                    Word a = line.get(i);
                    Word b = line.get(j);
                    boolean onsets = !a.onset().equals(b.onset());
                    String aNow = b.onset() + a.rest();
                    String bNow = a.onset() + b.rest();
                    if (kind == 1 && i < j && onsets || kind == 2 && j < i && onsets) {
                        found.add(taking(kind, i, j, line, Map.of(i, aNow), b));
                    }
                    if (kind == 3 && i < j && onsets) {
                        found.add(taking(kind, i, j, line, ordered(i, aNow, j, bNow), b));
                    }
                    if (kind == 4 && i < j && !a.letters.equals(b.letters)) {
                        found.add(taking(kind, i, j, line, ordered(i, b.letters, j, a.letters), b));
                    }
                }
            }
        }
        for (int kind = 5; kind <= 7; kind++) {
            for (int i = 0; i < n; i++) {
                for (int w = 0; w < words.size(); w++) {
                    Word a = line.get(i);
                    Word b = words.get(w);
                    boolean unlike = !a.letters.equals(b.letters);
                    boolean akin = unlike && a.sort == b.sort && a.sense == b.sense;
                    String blend = a.onset() + b.rest();
                    if (kind == 5 && akin && !blend.isEmpty() && !blend.equals(a.letters)) {
                        found.add(taking(5, i, w, line, Map.of(i, blend), b));
                    }
                    if (kind == 6 && a.sort == b.sort && oneSound(a.letters, b.letters)) {
                        found.add(taking(6, i, w, line, Map.of(i, b.letters), b));
                    }
                    if (kind == 7 && akin) {
                        found.add(taking(7, i, w, line, Map.of(i, b.letters), b));
                    }
                }
            }
        }
        for (int i = 0; i < n; i++) {
            Word a = line.get(i);
            if (!a.onset().isEmpty() && !a.rest().isEmpty()) {
                found.add(taking(8, i, -1, line, Map.of(i, a.rest()), null));
            }
        }
        return found;
    }

    private static Map<Integer, String> ordered(int i, String a, int j, String b) {
        Map<Integer, String> now = new LinkedHashMap<>();
        now.put(i, a);
        now.put(j, b);
        return now;
    }

    private static Taking taking(int kind, int i, int other, List<Word> line, Map<Integer, String> now, Word from) {
        return new Taking(kind, i, other, join(line, now), new ArrayList<>(now.values()),
            line.get(i).letters, line.get(i), from);
    }

    private static String join(List<Word> line, Map<Integer, String> now) {
        List<String> parts = new ArrayList<>();
        for (int i = 0; i < line.size(); i++) {
            parts.add(now.getOrDefault(i, line.get(i).letters));
        }
        return String.join(" ", parts);
    }

    static boolean oneSound(String a, String b) {
        if (a.length() == b.length()) {
            int unlike = 0;
            for (int i = 0; i < a.length(); i++) {
                unlike += a.charAt(i) == b.charAt(i) ? 0 : 1;
            }
            return unlike == 1;
        }
        String more = a.length() > b.length() ? a : b;
        String less = a.length() > b.length() ? b : a;
        for (int i = 0; i < more.length(); i++) {
            if ((more.substring(0, i) + more.substring(i + 1)).equals(less)) {
                return true;
            }
        }
        return false;
    }

    Word find(String letters) {
        for (Word w : words) {
            if (w.letters.equals(letters)) {
                return w;
            }
        }
        return null;
    }

    boolean real(Taking t) {
        return t.changed.stream().allMatch(c -> find(c) != null);
    }

    static int farOf(Taking t) {
        if (t.kind == 0) {
            return 0;
        }
        String now = t.changed.get(0);
        int unlike = 0;
        for (int i = 0; i < Math.max(now.length(), t.was.length()); i++) {
            boolean alike = i < now.length() && i < t.was.length() && now.charAt(i) == t.was.charAt(i);
            unlike += alike ? 0 : 1;
        }
        return unlike;
    }

    static int gapOf(Taking t) {
        return t.kind >= 1 && t.kind <= 4 ? Math.abs(t.place - t.other) : 0;
    }

    int value(int row, Taking t, List<Statement> text, int most) {
        Map<String, Integer> facts = new LinkedHashMap<>();
        facts.put("gap", gapOf(t));
        facts.put("place", Math.max(0, t.place));
        facts.put("words", rows.get(row).size());
        facts.put("often", t.from == null ? 0 : t.from.often);
        facts.put("own", t.own == null ? 0 : t.own.often);
        facts.put("sort", t.from != null && t.own.sort == t.from.sort ? 1 : 0);
        facts.put("far", farOf(t));
        facts.put("real", real(t) ? 1 : 0);
        for (Statement s : text) {
            if (s.kind.equals(KINDS[t.kind]) && s.test.of(facts)) {
                return (int) Math.max(0, Math.min(most, s.sum.of(facts)));
            }
        }
        return 0;
    }

    int heard(int row, Taking t) {
        return ear == null ? 100 : value(row, t, ear, 100);
    }

    int weightOf(int row, Taking t, int making) {
        return value(row, t, makings.get(making), 1000);
    }

    boolean isRow(int row) {
        return row >= 0 && row < rows.size();
    }

    boolean isMaking(int k) {
        return k >= 0 && k < 4 && makings.get(k) != null;
    }

    static boolean isKind(int kind) {
        return kind >= 0 && kind <= 8;
    }

    int total(int row, int making) {
        int sum = 0;
        for (Taking t : all(row)) {
            sum += weightOf(row, t, making);
        }
        return sum;
    }

    int takings(int row) {
        return isRow(row) ? all(row).size() : -1;
    }

    private Taking get(int row, int k) {
        return isRow(row) && k >= 0 && k < all(row).size() ? all(row).get(k) : null;
    }

    int taking(int row, int k, int what) {
        Taking t = get(row, k);
        if (t == null || what < 0 || what > 5) {
            return -1;
        }
        return new int[] {t.kind, t.place, t.other, real(t) ? 1 : 0, heard(row, t), farOf(t)}[what];
    }

    int weight(int row, int k, int making) {
        if (!isRow(row) || !isMaking(making)) {
            return -1;
        }
        if (k == -1) {
            return total(row, making);
        }
        return get(row, k) == null ? -1 : weightOf(row, get(row, k), making);
    }

    int tell(int row, int k) {
        if (get(row, k) == null) {
            return -1;
        }
        said = get(row, k).said;
        return said.length();
    }

    int say(int row, int making, int seed) {
        if (!isRow(row) || !isMaking(making) || seed < 0 || total(row, making) == 0) {
            return -1;
        }
        BigInteger x = BigInteger.valueOf(1103515245).multiply(BigInteger.valueOf(seed))
            .add(BigInteger.valueOf(12345)).mod(BigInteger.TWO.pow(31));
        long drawn = x.shiftRight(8).longValue() % total(row, making);
        int k = -1;
        long sum = 0;
        while (sum <= drawn) {
            k++;
            sum += weightOf(row, get(row, k), making);
        }
        said = get(row, k).said;
        return k;
    }

    boolean hear() {
        String text = takeTape();
        if (!text.matches("[a-z ]{1,100}")) {
            return false;
        }
        said = text;
        return true;
    }

    int letter(int k) {
        return k >= 0 && k < said.length() ? said.charAt(k) : -1;
    }

    // ---- what gave it

    List<Taking> waysOf(int row, String text) {
        return all(row).stream().filter(t -> t.said.equals(text)).toList();
    }

    int ways(int row, int kind) {
        if (!isRow(row) || kind != -1 && !isKind(kind)) {
            return -1;
        }
        return (int) waysOf(row, said).stream().filter(t -> kind == -1 || t.kind == kind).count();
    }

    int part(int row, int making, String text) {
        return waysOf(row, text).stream().mapToInt(t -> weightOf(row, t, making)).sum();
    }

    static int lowest(int part, int whole, boolean above) {
        int shared = BigInteger.valueOf(part).gcd(BigInteger.valueOf(whole)).intValue();
        return (above ? part : whole) / shared;
    }

    int odds(int row, int making, boolean above) {
        if (!isRow(row) || !isMaking(making) || total(row, making) == 0) {
            return -1;
        }
        return lowest(part(row, making, said), total(row, making), above);
    }

    int told(int row, int making, int kind, boolean above) {
        if (!isRow(row) || !isMaking(making) || !isKind(kind) || part(row, making, said) == 0) {
            return -1;
        }
        int ofKind = waysOf(row, said).stream().filter(t -> t.kind == kind)
            .mapToInt(t -> weightOf(row, t, making)).sum();
        return lowest(ofKind, part(row, making, said), above);
    }

    int meant(int making) {
        if (making != -1 && !isMaking(making)) {
            return -1;
        }
        int bits = 0;
        for (int row = 0; row < rows.size(); row++) {
            boolean could = making == -1 ? !waysOf(row, said).isEmpty() : part(row, making, said) > 0;
            bits += could ? 1 << row : 0;
        }
        return bits;
    }

    int mostly(int row, int making) {
        if (!isRow(row) || !isMaking(making) || total(row, making) == 0) {
            return -1;
        }
        List<Integer> weights = all(row).stream().map(t -> weightOf(row, t, making)).toList();
        return weights.indexOf(weights.stream().max(Integer::compare).get());
    }

    int never(int making, int kind) {
        if (!isMaking(making) || !isKind(kind)) {
            return -1;
        }
        for (int row = 0; row < rows.size(); row++) {
            for (Taking t : all(row)) {
                if (t.kind == kind && weightOf(row, t, making) > 0) {
                    return 0;
                }
            }
        }
        return 1;
    }

    // ---- the list

    int note(int row) {
        if (!isRow(row) || said.isEmpty() || notes.size() == 20) {
            return -1;
        }
        notes.add(new Note(row, said));
        return notes.size();
    }

    int undo() {
        if (notes.isEmpty()) {
            return -1;
        }
        notes.remove(notes.size() - 1);
        return notes.size();
    }

    int recall(int k) {
        if (k < 0 || k >= notes.size()) {
            return -1;
        }
        said = notes.get(k).said;
        return notes.get(k).row;
    }

    int thrown(int making) {
        if (!isMaking(making)) {
            return -1;
        }
        for (Note note : notes) {
            if (part(note.row, making, note.said) == 0) {
                return notes.indexOf(note);
            }
        }
        return -1;
    }

    int better(int first, int second) {
        if (!isMaking(first) || !isMaking(second)) {
            return -1;
        }
        int found = 0;
        for (Note note : notes) {
            BigInteger a = BigInteger.valueOf(part(note.row, first, note.said));
            BigInteger b = BigInteger.valueOf(part(note.row, second, note.said));
            int below = total(note.row, first);
            int otherBelow = total(note.row, second);
            // a / below > b / otherBelow, where nothing through nothing is 0
            BigInteger left = below == 0 ? BigInteger.ZERO : a.multiply(BigInteger.valueOf(Math.max(1, otherBelow)));
            BigInteger right = otherBelow == 0 ? BigInteger.ZERO : b.multiply(BigInteger.valueOf(Math.max(1, below)));
            found += left.compareTo(right) > 0 ? 1 : 0;
        }
        return found;
    }

    int kinds(int kind) {
        if (!isKind(kind)) {
            return -1;
        }
        return (int) notes.stream().filter(n -> waysOf(n.row, n.said).stream().anyMatch(t -> t.kind == kind)).count();
    }

    int far(boolean most) {
        List<Integer> all = new ArrayList<>();
        for (Note note : notes) {
            waysOf(note.row, note.said).stream().filter(t -> t.kind == 1 || t.kind == 3)
                .map(Model::gapOf).min(Integer::compare).ifPresent(all::add);
        }
        if (all.isEmpty()) {
            return -1;
        }
        return most ? all.stream().max(Integer::compare).get() : all.stream().min(Integer::compare).get();
    }

    int frame(boolean same) {
        return (int) notes.stream().filter(n -> waysOf(n.row, n.said).stream()
            .anyMatch(t -> t.kind == 4 && (t.own.sort == t.from.sort) == same)).count();
    }

    // ---- rows that part makings, real words, wishes

    int apart(int row, int first, int second) {
        if (!isRow(row) || !isMaking(first) || !isMaking(second)) {
            return -1;
        }
        BigInteger a = BigInteger.valueOf(total(row, first));
        BigInteger b = BigInteger.valueOf(total(row, second));
        if (a.signum() == 0 || b.signum() == 0) {
            return 0;
        }
        BigInteger sum = BigInteger.ZERO;
        for (String text : all(row).stream().map(Taking::said).distinct().toList()) {
            BigInteger x = BigInteger.valueOf(part(row, first, text)).multiply(b);
            BigInteger y = BigInteger.valueOf(part(row, second, text)).multiply(a);
            sum = sum.add(x.subtract(y).abs());
        }
        return sum.multiply(BigInteger.valueOf(1000000)).divide(a.multiply(b)).intValueExact();
    }

    int next() {
        List<Integer> there = new ArrayList<>();
        for (int k = 0; k < 4; k++) {
            if (isMaking(k)) {
                there.add(k);
            }
        }
        if (there.size() < 2) {
            return -1;
        }
        int best = -1;
        int most = -1;
        for (int row = 0; row < rows.size(); row++) {
            int sum = 0;
            for (int a : there) {
                for (int b : there) {
                    sum += a < b ? apart(row, a, b) : 0;
                }
            }
            if (sum > most) {
                most = sum;
                best = row;
            }
        }
        return best;
    }

    int reals(int row, int kind, boolean real) {
        if (!isRow(row) || !isKind(kind)) {
            return -1;
        }
        return (int) all(row).stream().filter(t -> t.kind == kind && (!real || real(t))).count();
    }

    int wish(int row, int making, int sense, boolean above) {
        if (!isRow(row) || !isMaking(making) || sense < 0 || sense > 9 || total(row, making) == 0) {
            return -1;
        }
        int part = all(row).stream()
            .filter(t -> t.changed.stream().anyMatch(c -> find(c) != null && find(c).sense == sense))
            .mapToInt(t -> weightOf(row, t, making)).sum();
        return lowest(part, total(row, making), above);
    }

    int lean(int row, int making, int kind, boolean above) {
        if (!isRow(row) || !isMaking(making) || !isKind(kind)) {
            return -1;
        }
        int whole = all(row).stream().mapToInt(t -> weightOf(row, t, making) * heard(row, t)).sum();
        int part = all(row).stream().filter(t -> t.kind == kind)
            .mapToInt(t -> weightOf(row, t, making) * heard(row, t)).sum();
        return whole == 0 ? -1 : lowest(part, whole, above);
    }

    // ---- images

    static int check(List<Integer> bytes) {
        int c = 7;
        for (int b : bytes) {
            c = (3 * c + b) % 251;
        }
        return c;
    }

    int image() {
        image = new ArrayList<>();
        image.add(notes.size());
        for (Note note : notes) {
            image.add(note.row);
            image.add(note.said.length());
            for (char c : note.said.toCharArray()) {
                image.add((int) c);
            }
        }
        image.add(check(image));
        return image.size();
    }

    int octet(int k) {
        return k >= 0 && k < image.size() ? image.get(k) : -1;
    }

    boolean on() {
        List<Integer> bytes = new ArrayList<>(tape);
        tape.clear();
        if (bytes.isEmpty()) {
            return false;
        }
        int last = bytes.remove(bytes.size() - 1);
        if (last != check(bytes) || bytes.isEmpty() || bytes.get(0) > 20) {
            return false;
        }
        List<Note> read = new ArrayList<>();
        int many = bytes.remove(0);
        for (int i = 0; i < many; i++) {
            if (bytes.size() < 2 || bytes.size() < 2 + bytes.get(1)) {
                return false;
            }
            int row = bytes.remove(0);
            int length = bytes.remove(0);
            StringBuilder text = new StringBuilder();
            for (int j = 0; j < length; j++) {
                text.append((char) (int) bytes.remove(0));
            }
            if (!isRow(row) || !text.toString().matches("[a-z ]{1,100}")) {
                return false;
            }
            read.add(new Note(row, text.toString()));
        }
        if (!bytes.isEmpty()) {
            return false;
        }
        notes = read;
        return true;
    }
}
