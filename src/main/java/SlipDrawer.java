import java.util.Arrays;

/**
 * Slips of the tongue: words in a drawer, rows of them that are meant, and all that can be taken
 * for another thing on the way. The promises stand in ../shared/DOC.md.
 *
 * <p>What can be worked out of the words (the takings of a row) and of the makings (their weights)
 * is kept with its row, and worked out anew only when a word or a making has come since.
 */
public final class SlipDrawer {
    /** There is none; it is refused. */
    public static final int NONE = -1;

    private static final int TAPE_MOST = 2100;
    private static final int WORDS_MOST = 30;
    private static final int LETTERS_MOST = 8;
    private static final int ROWS_MOST = 12;
    private static final int LINE_MOST = 6;
    private static final int NOTES_MOST = 20;
    private static final int SAID_MOST = 100;
    private static final int SORTS = 5;
    private static final int SENSES = 10;
    private static final int OFTEN_MOST = 99;
    private static final int BLANK = 32;
    private static final int LINE_END = 10;

    // The kinds of takings; their numbers are those of their names among the own words, too.
    private static final int NO_SLIP = 0;
    private static final int EARLY = 1;
    private static final int LATE = 2;
    private static final int SWAP = 3;
    private static final int TRADE = 4;
    private static final int BLEND = 5;
    private static final int NEAR = 6;
    private static final int SENSE = 7;
    private static final int LOST = 8;

    // Tokens of a text, and steps of its code: own words by their number, signs by their byte,
    // a number N as NUMBER + N.
    private static final String OWN_WORDS =
        "none early late swap trade blend near sense lost when or and not all real gap place words often own sort far min max ";
    private static final int WHEN = 9;
    private static final int OR = 10;
    private static final int AND = 11;
    private static final int NOT = 12;
    private static final int ALL = 13;
    private static final int REAL = 14;
    private static final int GAP = 15;
    private static final int FAR = 21;
    private static final int MIN = 22;
    private static final int MAX = 23;
    private static final int NUMBER = 1000;
    private static final int END = -1;
    private static final int BAD = -2;

    // Where the facts of a taking stand: GAP to FAR in the order of their words, then REAL.
    private static final int FACT_GAP = 0;
    private static final int FACT_PLACE = 1;
    private static final int FACT_WORDS = 2;
    private static final int FACT_OFTEN = 3;
    private static final int FACT_OWN = 4;
    private static final int FACT_SORT = 5;
    private static final int FACT_FAR = 6;
    private static final int FACT_REAL = 7;
    private static final int FACTS = 8;

    private static final int DIGITS_MOST = 4;
    private static final int OPEN_MOST = 6;
    private static final int STATEMENTS_MOST = 20;
    private static final int VALUE_MOST = 1000000;
    private static final int STACK_MOST = 128;

    private static final int FAULT_TEXT = 1;
    private static final int FAULT_OPEN = 4;
    private static final int FAULT_STATEMENTS = 5;

    private static final int MAKINGS = 4;
    private static final int EAR = 4;
    private static final int SCRIPTS = 5;
    private static final int NO_SUCH_MAKING = -2;
    private static final int WEIGHT_MOST = 1000;
    private static final int HEARD_MOST = 100;
    private static final int MILLION = 1000000;

    // A text's key is a number in this base; that of up to 12 letters is no other text's.
    private static final long KEY_BASE = 37;
    private static final int KEY_OF_BLANK = 27;
    private static final int BEFORE_A = 96;
    // Greater than any row's number of takings, so that a free slot is always left.
    private static final int SLOTS = 1024;

    private static final int CHECK_START = 7;
    private static final int CHECK_BASE = 251;
    private static final int IMAGE_MOST = 2 + NOTES_MOST * (2 + SAID_MOST);

    private final Tape tape = new Tape();
    private final Words words = new Words();
    private final Meant[] rows = new Meant[ROWS_MOST];
    private int rowCount;
    private final Script[] scripts = new Script[SCRIPTS];
    private final Machine machine = new Machine();
    private final int[] slots = new int[SLOTS];
    private int faultKind;
    private int faultPlace = NONE;
    private final Speech said = new Speech();
    private final Notes list = new Notes();
    private final Picture picture = new Picture();

    /** No words, rows, makings, ear or notes; nothing said. */
    public SlipDrawer() {
    }

    // ---- the tape

    /** Twenty bytes come behind those on the tape: how many there are; NONE if there is no room. */
    public int feed(int a, int b, int c, int d, int e) {
        if (tape.length + 20 > TAPE_MOST) {
            return NONE;
        }
        tape.put(a);
        tape.put(b);
        tape.put(c);
        tape.put(d);
        tape.put(e);
        return tape.length;
    }

    /** The tape keeps its first n bytes alone; false if it has not so many. */
    public boolean end(int n) {
        if (n < 0 || n > tape.length) {
            return false;
        }
        tape.length = n;
        return true;
    }

    // ---- words and rows

    /** The tape is a word: its number; NONE when it can't be. */
    public int word(int sort, int sense, int often) {
        boolean fits = sort >= 0 && sort < SORTS && sense >= 0 && sense < SENSES
            && often >= 1 && often <= OFTEN_MOST;
        int number = fits ? words.add(tape, sort, sense, often) : NONE;
        tape.length = 0;
        return number;
    }

    /** A row of words, up to the first NONE: its number; NONE when it can't be. */
    public int row(int a, int b, int c, int d, int e, int f) {
        int[] given = {a, b, c, d, e, f};
        int size = 0;
        while (size < LINE_MOST && given[size] != NONE) {
            if (!words.isThere(given[size])) {
                return NONE;
            }
            size++;
        }
        for (int i = size; i < LINE_MOST; i++) {
            if (given[i] != NONE) {
                return NONE;
            }
        }
        if (size == 0 || rowCount >= ROWS_MOST) {
            return NONE;
        }
        rows[rowCount] = new Meant(words, Arrays.copyOf(given, size));
        rowCount++;
        return rowCount - 1;
    }

    /** How many there are of what the number names; NONE for others. */
    public int has(int what) {
        switch (what) {
            case 0:
                return words.count;
            case 1:
                return rowCount;
            case 2:
                return countMakings();
            case 3:
                return list.count;
            case 4:
                return said.length;
            case 5:
                return scripts[EAR] == null ? 0 : 1;
            default:
                return NONE;
        }
    }

    // ---- makings

    /** The tape is making k: how many statements; NONE with a fault; -2 without such a number. */
    public int making(int k) {
        if (k < 0 || k >= MAKINGS) {
            tape.length = 0;
            return NO_SUCH_MAKING;
        }
        return takeScript(k);
    }

    /** The tape is the ear: how many statements; NONE with a fault. */
    public int ear() {
        return takeScript(EAR);
    }

    /** Of the latest text: its fault (0), the fault's place (1). */
    public int fault(int what) {
        if (what == 0) {
            return faultKind;
        }
        return what == 1 ? faultPlace : NONE;
    }

    // ---- takings

    /** How many takings a row has. */
    public int takings(int row) {
        Meant meant = readyRow(row);
        return meant == null ? NONE : meant.count;
    }

    /** Of taking k: its kind, place, other, whether it is real, how far it is heard, its far. */
    public int taking(int row, int k, int what) {
        Meant meant = readyRow(row);
        if (meant == null || !meant.isThere(k)) {
            return NONE;
        }
        switch (what) {
            case 0:
                return meant.kindOf[k];
            case 1:
                return meant.placeOf[k];
            case 2:
                return meant.otherOf[k];
            case 3:
                return meant.isReal[k] ? 1 : 0;
            case 4:
                weighFor(meant, EAR);
                return meant.weightsBy[EAR][k];
            case 5:
                return meant.farOf[k];
            default:
                return NONE;
        }
    }

    /** The weight of taking k by a making; with k NONE that of all together. */
    public int weight(int row, int k, int making) {
        Meant meant = weighedRow(row, making);
        if (meant == null) {
            return NONE;
        }
        if (k == NONE) {
            return meant.totalBy[making];
        }
        return meant.isThere(k) ? meant.weightsBy[making][k] : NONE;
    }

    /** The said becomes what taking k gives: how many letters and blanks. */
    public int tell(int row, int k) {
        Meant meant = readyRow(row);
        if (meant == null || !meant.isThere(k)) {
            return NONE;
        }
        meant.speak(k, said);
        return said.length;
    }

    /** A draw by a making: the taking, which is said. */
    public int say(int row, int making, int seed) {
        Meant meant = weighedRow(row, making);
        if (meant == null || seed < 0 || meant.totalBy[making] <= 0) {
            return NONE;
        }
        long drawn = (1103515245L * seed + 12345L) % (1L << 31);
        int k = meant.reachedBy(making, drawn / 256 % meant.totalBy[making]);
        if (k != NONE) {
            meant.speak(k, said);
        }
        return k;
    }

    /** The said becomes what is on the tape; false when that can't be said. */
    public boolean hear() {
        boolean fits = Speech.fits(tape, 0, tape.length);
        if (fits) {
            said.take(tape, 0, tape.length);
        }
        tape.length = 0;
        return fits;
    }

    /** Byte k of the said. */
    public int letter(int k) {
        return said.byteAt(k);
    }

    // ---- what gave it

    /** By how many takings of a row (of a kind, or of any: NONE) the said is said. */
    public int ways(int row, int kind) {
        Meant meant = readyRow(row);
        if (meant == null || !(kind == NONE || isKind(kind))) {
            return NONE;
        }
        return meant.countWays(meant.leaderOf(said), kind);
    }

    /** The odds of the said from a row by a making. */
    public int odds(int row, int making, boolean above) {
        Meant meant = weighedRow(row, making);
        if (meant == null) {
            return NONE;
        }
        return lowest(meant.weightOf(said, making), meant.totalBy[making], above);
    }

    /** The odds of a kind, if the said came from a row by a making. */
    public int told(int row, int making, int kind, boolean above) {
        Meant meant = weighedRow(row, making);
        if (meant == null || !isKind(kind)) {
            return NONE;
        }
        int part = 0;
        int leader = meant.leaderOf(said);
        for (int k = 0; k < meant.count; k++) {
            if (meant.leaders[k] == leader && meant.kindOf[k] == kind) {
                part += meant.weightsBy[making][k];
            }
        }
        return lowest(part, meant.weightOf(said, making), above);
    }

    /** The rows, as bits, from which the said could have come by a making, or by any weight. */
    public int meant(int making) {
        if (making != NONE && !isMaking(making)) {
            return NONE;
        }
        int bits = 0;
        for (int row = 0; row < rowCount; row++) {
            Meant meant = making == NONE ? readyRow(row) : weighedRow(row, making);
            if (meant != null && meant.couldGive(said, making)) {
                bits |= 1 << row;
            }
        }
        return bits;
    }

    /** The first taking of a row that has the greatest weight by a making. */
    public int mostly(int row, int making) {
        Meant meant = weighedRow(row, making);
        if (meant == null || meant.totalBy[making] == 0) {
            return NONE;
        }
        int[] weights = meant.weightsBy[making];
        int best = 0;
        for (int k = 1; k < meant.count; k++) {
            if (weights[k] > weights[best]) {
                best = k;
            }
        }
        return best;
    }

    /** Whether a making gives no taking of a kind a weight, of any row: 1, 0. */
    public int never(int making, int kind) {
        if (!isMaking(making) || !isKind(kind)) {
            return NONE;
        }
        for (int row = 0; row < rowCount; row++) {
            Meant meant = weighedRow(row, making);
            if (meant != null && meant.weightOfKind(kind, making) > 0) {
                return 0;
            }
        }
        return 1;
    }

    // ---- the list

    /** A note of a row and the said: how many notes there are. */
    public int note(int row) {
        if (!isRow(row) || said.length == 0 || list.count >= NOTES_MOST) {
            return NONE;
        }
        list.add(row, said);
        return list.count;
    }

    /** The last note goes: how many are left. */
    public int undo() {
        if (list.count == 0) {
            return NONE;
        }
        list.count--;
        return list.count;
    }

    /** The said becomes that of note k: its row. */
    public int recall(int k) {
        if (k < 0 || k >= list.count) {
            return NONE;
        }
        said.copy(list.texts[k]);
        return list.rowOf[k];
    }

    /** The note by which a making is thrown out. */
    public int thrown(int making) {
        if (!isMaking(making)) {
            return NONE;
        }
        for (int i = 0; i < list.count; i++) {
            Meant meant = weighedRow(list.rowOf[i], making);
            if (meant == null || meant.weightOf(list.texts[i], making) == 0) {
                return i;
            }
        }
        return NONE;
    }

    /** How many notes have greater odds by the first making than by the second. */
    public int better(int first, int second) {
        if (!isMaking(first) || !isMaking(second)) {
            return NONE;
        }
        int found = 0;
        for (int i = 0; i < list.count; i++) {
            Meant meant = fullyWeighedRow(list.rowOf[i]);
            if (meant != null && meant.isLikelier(list.texts[i], first, second)) {
                found++;
            }
        }
        return found;
    }

    /** How many notes some taking of a kind gives. */
    public int kinds(int kind) {
        if (!isKind(kind)) {
            return NONE;
        }
        int found = 0;
        for (int i = 0; i < list.count; i++) {
            Meant meant = readyRow(list.rowOf[i]);
            if (meant != null && meant.countWays(meant.leaderOf(list.texts[i]), kind) > 0) {
                found++;
            }
        }
        return found;
    }

    /** How far ahead an onset was ready: the greatest of the notes, or the least. */
    public int far(boolean most) {
        int found = NONE;
        for (int i = 0; i < list.count; i++) {
            Meant meant = readyRow(list.rowOf[i]);
            int gap = meant == null ? NONE : meant.leastGapAhead(list.texts[i]);
            boolean goesFirst = most ? gap > found : gap < found;
            if (gap != NONE && (found == NONE || goesFirst)) {
                found = gap;
            }
        }
        return found;
    }

    /** How many notes some trade gives whose words are of one sort, or of two. */
    public int frame(boolean same) {
        int found = 0;
        for (int i = 0; i < list.count; i++) {
            Meant meant = readyRow(list.rowOf[i]);
            if (meant != null && meant.isTraded(list.texts[i], same)) {
                found++;
            }
        }
        return found;
    }

    // ---- rows that part makings, real words, wishes

    /** How far apart two makings are on a row, in millionths. */
    public int apart(int row, int first, int second) {
        Meant meant = fullyWeighedRow(row);
        if (meant == null || !isMaking(first) || !isMaking(second)) {
            return NONE;
        }
        return meant.partedBy(first, second);
    }

    /** The row on which all makings, by twos, are apart most together. */
    public int next() {
        if (countMakings() < 2) {
            return NONE;
        }
        int best = NONE;
        int most = NONE;
        for (int row = 0; row < rowCount; row++) {
            Meant meant = fullyWeighedRow(row);
            int together = meant == null ? NONE : partedByAll(meant);
            if (together > most) {
                most = together;
                best = row;
            }
        }
        return best;
    }

    /** How many takings of a kind a row has: the real ones, or all. */
    public int reals(int row, int kind, boolean real) {
        Meant meant = readyRow(row);
        if (meant == null || !isKind(kind)) {
            return NONE;
        }
        int found = 0;
        for (int k = 0; k < meant.count; k++) {
            if (meant.kindOf[k] == kind && (meant.isReal[k] || !real)) {
                found++;
            }
        }
        return found;
    }

    /** The odds that a changed word is a word of a sense, from a row by a making. */
    public int wish(int row, int making, int sense, boolean above) {
        Meant meant = weighedRow(row, making);
        if (meant == null || sense < 0 || sense >= SENSES) {
            return NONE;
        }
        int part = 0;
        for (int k = 0; k < meant.count; k++) {
            if ((meant.sensesOf[k] >> sense & 1) == 1) {
                part += meant.weightsBy[making][k];
            }
        }
        return lowest(part, meant.totalBy[making], above);
    }

    /** The odds of a kind among what is heard, from a row by a making. */
    public int lean(int row, int making, int kind, boolean above) {
        Meant meant = weighedRow(row, making);
        if (meant == null || !isKind(kind)) {
            return NONE;
        }
        weighFor(meant, EAR);
        int part = 0;
        int whole = 0;
        for (int k = 0; k < meant.count; k++) {
            int heard = meant.weightsBy[making][k] * meant.weightsBy[EAR][k];
            whole += heard;
            if (meant.kindOf[k] == kind) {
                part += heard;
            }
        }
        return lowest(part, whole, above);
    }

    // ---- images

    /** An image of the list is written: how many bytes. */
    public int image() {
        picture.draw(list);
        return picture.length;
    }

    /** Byte k of the latest image. */
    public int octet(int k) {
        return k >= 0 && k < picture.length ? picture.octets[k] & 255 : NONE;
    }

    /** The tape is an image: true, the list is as it tells; false when it is none. */
    public boolean on() {
        boolean sound = Picture.isSound(tape, rowCount);
        if (sound) {
            list.readFrom(tape);
        }
        tape.length = 0;
        return sound;
    }

    // ---- what the calls share

    private static boolean isKind(int kind) {
        return kind >= NO_SLIP && kind <= LOST;
    }

    private boolean isRow(int row) {
        return row >= 0 && row < rowCount;
    }

    private boolean isMaking(int making) {
        return making >= 0 && making < MAKINGS && scripts[making] != null;
    }

    private int countMakings() {
        int found = 0;
        for (int i = 0; i < MAKINGS; i++) {
            if (scripts[i] != null) {
                found++;
            }
        }
        return found;
    }

    private int takeScript(int slot) {
        Reader reader = new Reader(tape);
        reader.readAll();
        tape.length = 0;
        faultKind = reader.faultKind;
        faultPlace = reader.faultPlace;
        if (faultKind != 0) {
            return NONE;
        }
        scripts[slot] = reader.script;
        for (int row = 0; row < rowCount; row++) {
            if (rows[row] != null) {
                rows[row].isWeighed[slot] = false;
            }
        }
        return reader.script.count;
    }

    /** The row with its takings listed; null when there is none such. */
    private Meant readyRow(int row) {
        if (!isRow(row)) {
            return null;
        }
        Meant meant = rows[row];
        if (meant != null && meant.wordsSeen != words.count) {
            meant.wordsSeen = words.count;
            meant.forgetWeights();
            meant.listAll();
            meant.describeAll();
            meant.lead(slots);
        }
        return meant;
    }

    /** The row with its takings weighed by a making; null when there is no such row or making. */
    private Meant weighedRow(int row, int making) {
        if (!isMaking(making)) {
            return null;
        }
        Meant meant = readyRow(row);
        if (meant != null) {
            weighFor(meant, making);
        }
        return meant;
    }

    /** The row with its takings weighed by all makings; null when there is no such row. */
    private Meant fullyWeighedRow(int row) {
        Meant meant = readyRow(row);
        for (int making = 0; making < MAKINGS; making++) {
            if (meant != null && isMaking(making)) {
                weighFor(meant, making);
            }
        }
        return meant;
    }

    private void weighFor(Meant meant, int slot) {
        if (!meant.isWeighed[slot]) {
            meant.isWeighed[slot] = true;
            meant.weigh(slot, scripts[slot], machine);
            meant.sumUp(slot);
        }
    }

    /** How far apart all makings, by twos, are together on a row that is weighed by them. */
    private int partedByAll(Meant meant) {
        int together = 0;
        for (int first = 0; first < MAKINGS; first++) {
            for (int second = first + 1; second < MAKINGS; second++) {
                if (isMaking(first) && isMaking(second)) {
                    together += meant.partedBy(first, second);
                }
            }
        }
        return together;
    }

    /** What stands above or below in part / whole in lowest terms; NONE when the whole is 0. */
    private static int lowest(int part, int whole, boolean above) {
        if (whole <= 0) {
            return NONE;
        }
        int shared = whole;
        int left = part;
        // Euclid's steps: 64 are more than any two ints need.
        for (int i = 0; i < 64 && left != 0; i++) {
            int next = shared % left;
            shared = left;
            left = next;
        }
        return (above ? part : whole) / (shared == 0 ? 1 : shared);
    }

    /** Bytes that wait to be taken for a word, a text, what is heard, or an image. */
    private static final class Tape {
        final byte[] bytes = new byte[TAPE_MOST];
        int length;

        /** Four bytes, the highest first. */
        void put(int number) {
            for (int shift = 24; shift >= 0 && length < TAPE_MOST; shift -= 8) {
                bytes[length] = (byte) (number >> shift);
                length++;
            }
        }

        int byteAt(int k) {
            return k >= 0 && k < length ? bytes[k] & 255 : NONE;
        }

        boolean hasLetterAt(int k) {
            int found = byteAt(k);
            return found >= 'a' && found <= 'z';
        }

        boolean hasDigitAt(int k) {
            int found = byteAt(k);
            return found >= '0' && found <= '9';
        }

        boolean hasBlankAt(int k) {
            int found = byteAt(k);
            return found == BLANK || found == LINE_END;
        }
    }

    /** The words of the drawer; a said word is the onset of one (or of NONE) and the rest of one. */
    private static final class Words {
        final byte[] letters = new byte[WORDS_MOST * LETTERS_MOST];
        final int[] lengthOf = new int[WORDS_MOST];
        final int[] onsetOf = new int[WORDS_MOST];
        final int[] sortOf = new int[WORDS_MOST];
        final int[] senseOf = new int[WORDS_MOST];
        final int[] oftenOf = new int[WORDS_MOST];
        final long[] onsetKeys = new long[WORDS_MOST];
        final long[] restKeys = new long[WORDS_MOST];
        final long[] powers = new long[2 * LETTERS_MOST + 1];
        int count;

        Words() {
            powers[0] = 1;
            for (int i = 1; i < powers.length; i++) {
                powers[i] = powers[i - 1] * KEY_BASE;
            }
        }

        boolean isThere(int w) {
            return w >= 0 && w < count;
        }

        int add(Tape tape, int sort, int sense, int often) {
            if (count >= WORDS_MOST || tape.length < 1 || tape.length > LETTERS_MOST) {
                return NONE;
            }
            for (int i = 0; i < tape.length; i++) {
                if (!tape.hasLetterAt(i)) {
                    return NONE;
                }
                letters[count * LETTERS_MOST + i] = (byte) tape.byteAt(i);
            }
            lengthOf[count] = tape.length;
            split(count);
            for (int w = 0; w < count; w++) {
                if (saidKey(w, w) == saidKey(count, count)) {
                    return NONE;
                }
            }
            sortOf[count] = sort;
            senseOf[count] = sense;
            oftenOf[count] = often;
            count++;
            return count - 1;
        }

        private void split(int w) {
            int onset = 0;
            while (onset < lengthOf[w] && !isVowel(letterOf(w, onset))) {
                onset++;
            }
            onsetOf[w] = onset;
            onsetKeys[w] = keyOfLetters(w, 0, onset);
            restKeys[w] = keyOfLetters(w, onset, lengthOf[w]);
        }

        private long keyOfLetters(int w, int from, int to) {
            long key = 0;
            for (int i = from; i < to; i++) {
                key = key * KEY_BASE + letterOf(w, i) - BEFORE_A;
            }
            return key;
        }

        private static boolean isVowel(int letter) {
            return letter == 'a' || letter == 'e' || letter == 'i' || letter == 'o'
                || letter == 'u';
        }

        int letterOf(int w, int i) {
            return letters[w * LETTERS_MOST + i];
        }

        int saidLength(int front, int back) {
            int ahead = front == NONE ? 0 : onsetOf[front];
            return ahead + lengthOf[back] - onsetOf[back];
        }

        long saidKey(int front, int back) {
            long ahead = front == NONE ? 0 : onsetKeys[front];
            return ahead * powers[lengthOf[back] - onsetOf[back]] + restKeys[back];
        }

        int saidLetter(int front, int back, int i) {
            int ahead = front == NONE ? 0 : onsetOf[front];
            return letters[i < ahead ? front * LETTERS_MOST + i
                : back * LETTERS_MOST + onsetOf[back] + i - ahead];
        }

        /** The word that an onset and a rest give together; NONE when there is none such. */
        int numberOf(int front, int back) {
            if (front == back) {
                return back;
            }
            if (saidLength(front, back) > LETTERS_MOST) {
                return NONE;
            }
            long key = saidKey(front, back);
            for (int w = 0; w < count; w++) {
                if (saidKey(w, w) == key) {
                    return w;
                }
            }
            return NONE;
        }

        boolean areSaidAlike(int front, int back, int otherFront, int otherBack) {
            int length = saidLength(front, back);
            if (length != saidLength(otherFront, otherBack)) {
                return false;
            }
            for (int i = 0; i < length; i++) {
                if (saidLetter(front, back, i) != saidLetter(otherFront, otherBack, i)) {
                    return false;
                }
            }
            return true;
        }

        /** In how many places a word is unlike an onset and a rest together. */
        int countUnlike(int w, int front, int back) {
            int length = saidLength(front, back);
            int shared = Math.min(length, lengthOf[w]);
            int unlike = Math.max(length, lengthOf[w]) - shared;
            for (int i = 0; i < shared; i++) {
                if (letterOf(w, i) != saidLetter(front, back, i)) {
                    unlike++;
                }
            }
            return unlike;
        }

        boolean hasUnlikeOnset(int w, int other) {
            return onsetKeys[w] != onsetKeys[other];
        }

        boolean isAkin(int w, int other) {
            return w != other && sortOf[w] == sortOf[other] && senseOf[w] == senseOf[other];
        }

        /** Whether the onset of a word and the rest of another give something, and not the word. */
        boolean isBlendable(int w, int other) {
            return restKeys[w] != restKeys[other] && saidLength(w, other) > 0;
        }

        boolean canLoseOnset(int w) {
            return onsetOf[w] > 0 && onsetOf[w] < lengthOf[w];
        }

        boolean isNear(int w, int other) {
            int more = lengthOf[w] - lengthOf[other];
            if (w == other || sortOf[w] != sortOf[other] || more < -1 || more > 1) {
                return false;
            }
            int ahead = 0;
            int shared = Math.min(lengthOf[w], lengthOf[other]);
            while (ahead < shared && letterOf(w, ahead) == letterOf(other, ahead)) {
                ahead++;
            }
            // The one sound that is another one, or one more, is passed over; the rest is alike.
            int i = more >= 0 ? ahead + 1 : ahead;
            int j = more <= 0 ? ahead + 1 : ahead;
            while (i < lengthOf[w] && j < lengthOf[other]) {
                if (letterOf(w, i) != letterOf(other, j)) {
                    return false;
                }
                i++;
                j++;
            }
            return true;
        }
    }

    /** A row that is meant, with its takings and their weights by the makings and the ear. */
    private static final class Meant {
        final Words words;
        final int[] line;
        int wordsSeen;
        int count;
        final byte[] kindOf;
        final byte[] placeOf;
        final byte[] otherOf;
        final byte[] farOf;
        final boolean[] isReal;
        final int[] sensesOf;
        final long[] keys;
        // The first taking by which the same is said.
        final int[] leaders;
        final boolean[] isWeighed = new boolean[SCRIPTS];
        final int[] totalBy = new int[SCRIPTS];
        final int[][] weightsBy;
        // At a leader: the weights of all by which the same is said.
        final int[][] sharedBy;

        Meant(Words words, int[] line) {
            this.words = words;
            this.line = line;
            int size = line.length;
            int most = 1 + size + 2 * size * (size - 1) + 3 * size * (WORDS_MOST - 1);
            kindOf = new byte[most];
            placeOf = new byte[most];
            otherOf = new byte[most];
            farOf = new byte[most];
            isReal = new boolean[most];
            sensesOf = new int[most];
            keys = new long[most];
            leaders = new int[most];
            weightsBy = new int[SCRIPTS][most];
            sharedBy = new int[SCRIPTS][most];
        }

        boolean isThere(int k) {
            return k >= 0 && k < count;
        }

        void forgetWeights() {
            for (int slot = 0; slot < SCRIPTS; slot++) {
                isWeighed[slot] = false;
            }
        }

        void listAll() {
            count = 0;
            add(NO_SLIP, NONE, NONE);
            for (int kind = EARLY; kind <= LOST; kind++) {
                int others = kind <= TRADE ? line.length : kind == LOST ? 1 : words.count;
                for (int place = 0; place < line.length; place++) {
                    for (int other = 0; other < others; other++) {
                        if (canTake(kind, place, other)) {
                            add(kind, place, kind == LOST ? NONE : other);
                        }
                    }
                }
            }
        }

        private boolean canTake(int kind, int place, int other) {
            int own = line[place];
            switch (kind) {
                case EARLY:
                case SWAP:
                    return place < other && words.hasUnlikeOnset(own, line[other]);
                case LATE:
                    return other < place && words.hasUnlikeOnset(own, line[other]);
                case TRADE:
                    return place < other && own != line[other];
                case BLEND:
                    return words.isAkin(own, other) && words.isBlendable(own, other);
                case NEAR:
                    return words.isNear(own, other);
                case SENSE:
                    return words.isAkin(own, other);
                default:
                    return words.canLoseOnset(own);
            }
        }

        private void add(int kind, int place, int other) {
            if (count < kindOf.length) {
                kindOf[count] = (byte) kind;
                placeOf[count] = (byte) place;
                otherOf[count] = (byte) other;
                count++;
            }
        }

        /** The word whose onset is said at a place; NONE where that is lost. */
        private int frontAt(int k, int at) {
            int place = placeOf[k];
            int other = otherOf[k];
            switch (kindOf[k]) {
                case EARLY:
                case LATE:
                    return line[at == place ? other : at];
                case SWAP:
                case TRADE:
                    return line[at == place ? other : at == other ? place : at];
                case NEAR:
                case SENSE:
                    return at == place ? other : line[at];
                case LOST:
                    return at == place ? NONE : line[at];
                default:
                    return line[at];
            }
        }

        /** The word whose rest is said at a place. */
        private int backAt(int k, int at) {
            int place = placeOf[k];
            int other = otherOf[k];
            switch (kindOf[k]) {
                case TRADE:
                    return line[at == place ? other : at == other ? place : at];
                case BLEND:
                case NEAR:
                case SENSE:
                    return at == place ? other : line[at];
                default:
                    return line[at];
            }
        }

        void describeAll() {
            for (int k = 0; k < count; k++) {
                farOf[k] = 0;
                isReal[k] = true;
                sensesOf[k] = 0;
                if (kindOf[k] != NO_SLIP) {
                    int place = placeOf[k];
                    farOf[k] = (byte) words.countUnlike(
                        line[place], frontAt(k, place), backAt(k, place));
                    describeChange(k, place);
                }
                if (kindOf[k] == SWAP || kindOf[k] == TRADE) {
                    describeChange(k, otherOf[k]);
                }
                keys[k] = keyOfSaid(k);
            }
        }

        private void describeChange(int k, int at) {
            int number = words.numberOf(frontAt(k, at), backAt(k, at));
            if (number == NONE) {
                isReal[k] = false;
            } else {
                sensesOf[k] |= 1 << words.senseOf[number];
            }
        }

        /** The key of all that is said, as Speech has it of its bytes. */
        private long keyOfSaid(int k) {
            long key = 0;
            for (int at = 0; at < line.length; at++) {
                int front = frontAt(k, at);
                int back = backAt(k, at);
                long ahead = at == 0 ? 0 : key * KEY_BASE + KEY_OF_BLANK;
                key = ahead * words.powers[words.saidLength(front, back)] + words.saidKey(front, back);
            }
            return key;
        }

        /** Finds each taking's leader; slots (cleared here) has leaders by their keys, from 1 on. */
        void lead(int[] slots) {
            Arrays.fill(slots, 0);
            for (int k = 0; k < count; k++) {
                int slot = (int) (keys[k] ^ (keys[k] >>> 32)) & (SLOTS - 1);
                int steps = 0;
                while (steps < SLOTS && slots[slot] != 0 && !isSaidAlike(k, slots[slot] - 1)) {
                    slot = (slot + 1) & (SLOTS - 1);
                    steps++;
                }
                if (slots[slot] == 0) {
                    slots[slot] = k + 1;
                }
                leaders[k] = slots[slot] - 1;
            }
        }

        private boolean isSaidAlike(int k, int other) {
            if (keys[k] != keys[other]) {
                return false;
            }
            for (int at = 0; at < line.length; at++) {
                if (!words.areSaidAlike(frontAt(k, at), backAt(k, at),
                    frontAt(other, at), backAt(other, at))) {
                    return false;
                }
            }
            return true;
        }

        void speak(int k, Speech speech) {
            speech.length = 0;
            for (int at = 0; at < line.length; at++) {
                if (at > 0) {
                    speech.put(BLANK);
                }
                int front = frontAt(k, at);
                int back = backAt(k, at);
                int length = words.saidLength(front, back);
                for (int i = 0; i < length; i++) {
                    speech.put(words.saidLetter(front, back, i));
                }
            }
        }

        private boolean gives(int k, Speech speech) {
            int from = 0;
            for (int at = 0; at < line.length; at++) {
                if (at > 0) {
                    if (speech.byteAt(from) != BLANK) {
                        return false;
                    }
                    from++;
                }
                int front = frontAt(k, at);
                int back = backAt(k, at);
                int length = words.saidLength(front, back);
                for (int i = 0; i < length; i++) {
                    if (speech.byteAt(from + i) != words.saidLetter(front, back, i)) {
                        return false;
                    }
                }
                from += length;
            }
            return from == speech.length;
        }

        /** The first taking by which a speech is said; NONE when there is none such. */
        int leaderOf(Speech speech) {
            long key = speech.keyOfBytes();
            for (int k = 0; k < count; k++) {
                if (keys[k] == key && gives(k, speech)) {
                    return k;
                }
            }
            return NONE;
        }

        /** How many takings of a kind (NONE: of any) say what the leader says. */
        int countWays(int leader, int kind) {
            int found = 0;
            for (int k = 0; k < count; k++) {
                if (leaders[k] == leader && (kind == NONE || kindOf[k] == kind)) {
                    found++;
                }
            }
            return found;
        }

        void weigh(int slot, Script script, Machine machine) {
            int most = slot == EAR ? HEARD_MOST : WEIGHT_MOST;
            for (int k = 0; k < count; k++) {
                int value = most;
                if (script != null) {
                    tellFacts(k, machine.facts);
                    value = script.valueOf(kindOf[k], machine);
                }
                weightsBy[slot][k] = Math.max(0, Math.min(most, value));
            }
        }

        void sumUp(int slot) {
            totalBy[slot] = 0;
            for (int k = 0; k < count; k++) {
                sharedBy[slot][k] = 0;
                sharedBy[slot][leaders[k]] += weightsBy[slot][k];
                totalBy[slot] += weightsBy[slot][k];
            }
        }

        private void tellFacts(int k, int[] facts) {
            Arrays.fill(facts, 0);
            facts[FACT_WORDS] = line.length;
            facts[FACT_FAR] = farOf[k];
            facts[FACT_REAL] = isReal[k] ? 1 : 0;
            if (kindOf[k] == NO_SLIP) {
                return;
            }
            int place = placeOf[k];
            int other = otherOf[k];
            facts[FACT_PLACE] = place;
            facts[FACT_OWN] = words.oftenOf[line[place]];
            if (other == NONE) {
                return;
            }
            int source = other;
            if (kindOf[k] <= TRADE) {
                facts[FACT_GAP] = Math.abs(other - place);
                source = line[other];
            }
            facts[FACT_OFTEN] = words.oftenOf[source];
            facts[FACT_SORT] = words.sortOf[source] == words.sortOf[line[place]] ? 1 : 0;
        }

        /** The first taking up to which the weights together are above what was drawn. */
        int reachedBy(int making, long drawn) {
            long sum = 0;
            for (int k = 0; k < count; k++) {
                sum += weightsBy[making][k];
                if (drawn < sum) {
                    return k;
                }
            }
            return NONE;
        }

        /** Whether a speech is said by something that has a weight by a making, or (NONE) any. */
        boolean couldGive(Speech speech, int making) {
            int leader = leaderOf(speech);
            return leader != NONE && (making == NONE || sharedBy[making][leader] > 0);
        }

        int weightOf(Speech speech, int making) {
            int leader = leaderOf(speech);
            return leader == NONE ? 0 : sharedBy[making][leader];
        }

        int weightOfKind(int kind, int making) {
            int sum = 0;
            for (int k = 0; k < count; k++) {
                if (kindOf[k] == kind) {
                    sum += weightsBy[making][k];
                }
            }
            return sum;
        }

        boolean isLikelier(Speech speech, int first, int second) {
            int leader = leaderOf(speech);
            if (leader == NONE || totalBy[first] == 0) {
                return false;
            }
            // Without a second total its odds are 0: so is its weight, and any total will do.
            long below = Math.max(1, totalBy[second]);
            return sharedBy[first][leader] * below
                > (long) sharedBy[second][leader] * totalBy[first];
        }

        /** The least gap of those early or swap takings that give a speech; NONE without one. */
        int leastGapAhead(Speech speech) {
            int leader = leaderOf(speech);
            int least = NONE;
            for (int k = 0; k < count; k++) {
                if (leaders[k] == leader && (kindOf[k] == EARLY || kindOf[k] == SWAP)) {
                    int gap = otherOf[k] - placeOf[k];
                    least = least == NONE ? gap : Math.min(least, gap);
                }
            }
            return least;
        }

        /** Whether some trade gives a speech whose words are of one sort, or of two. */
        boolean isTraded(Speech speech, boolean same) {
            int leader = leaderOf(speech);
            for (int k = 0; k < count; k++) {
                if (leaders[k] == leader && kindOf[k] == TRADE) {
                    int sort = words.sortOf[line[placeOf[k]]];
                    if (sort == words.sortOf[line[otherOf[k]]] == same) {
                        return true;
                    }
                }
            }
            return false;
        }

        /** How far apart two makings are, in millionths, rounded down. */
        int partedBy(int first, int second) {
            long firstTotal = totalBy[first];
            long secondTotal = totalBy[second];
            if (firstTotal <= 0 || secondTotal <= 0) {
                return 0;
            }
            long sum = 0;
            for (int k = 0; k < count; k++) {
                if (leaders[k] == k) {
                    sum += Math.abs(sharedBy[first][k] * secondTotal
                        - sharedBy[second][k] * firstTotal);
                }
            }
            return (int) (sum * MILLION / (firstTotal * secondTotal));
        }
    }

    /** A making or the ear: its statements, their sums and tests as steps for the machine. */
    private static final class Script {
        final int[] code;
        int length;
        final int[] kindOf = new int[STATEMENTS_MOST];
        final int[] sumFrom = new int[STATEMENTS_MOST];
        final int[] testFrom = new int[STATEMENTS_MOST];
        final int[] testTo = new int[STATEMENTS_MOST];
        int count;

        Script(int most) {
            code = new int[Math.max(0, most)];
        }

        void put(int step) {
            if (length < code.length) {
                code[length] = step;
                length++;
            }
        }

        void close(int kind, int sumStart, int testStart) {
            if (count < STATEMENTS_MOST) {
                kindOf[count] = kind;
                sumFrom[count] = sumStart;
                testFrom[count] = testStart;
                testTo[count] = length;
                count++;
            }
        }

        /** The sum of the first statement of a kind whose test holds; 0 without one. */
        int valueOf(int kind, Machine machine) {
            for (int i = 0; i < count; i++) {
                if (kindOf[i] == kind && machine.run(code, testFrom[i], testTo[i]) != 0) {
                    return machine.run(code, sumFrom[i], testFrom[i]);
                }
            }
            return 0;
        }
    }

    /** Works out sums and tests (1 or 0) of the facts that it has been told. */
    private static final class Machine {
        final int[] facts = new int[FACTS];
        final int[] stack = new int[STACK_MOST];

        int run(int[] code, int from, int to) {
            int height = 0;
            for (int i = Math.max(0, from); i < to && i < code.length && height < STACK_MOST; i++) {
                int step = code[i];
                if (isPlain(step)) {
                    stack[height] = plainValue(step);
                    height++;
                } else if (step == NOT && height >= 1) {
                    stack[height - 1] = 1 - stack[height - 1];
                } else if (height >= 2) {
                    height--;
                    long joined = join(step, stack[height - 1], stack[height]);
                    stack[height - 1] = (int) Math.max(-VALUE_MOST, Math.min(VALUE_MOST, joined));
                }
            }
            return height == 0 ? 0 : stack[height - 1];
        }

        private static boolean isPlain(int step) {
            return step >= NUMBER || step >= ALL && step <= FAR;
        }

        private int plainValue(int step) {
            if (step >= NUMBER) {
                return step - NUMBER;
            }
            if (step >= GAP && step <= FAR) {
                return facts[step - GAP];
            }
            return step == REAL ? facts[FACT_REAL] : 1;
        }

        private static long join(int step, long left, long right) {
            switch (step) {
                case '+':
                    return left + right;
                case '-':
                    return left - right;
                case '*':
                    return left * right;
                case '/':
                    return right == 0 ? 0 : Math.floorDiv(left, right);
                case '<':
                    return left < right ? 1 : 0;
                case '>':
                    return left > right ? 1 : 0;
                case '=':
                    return left == right ? 1 : 0;
                case AND:
                case MIN:
                    return Math.min(left, right);
                default:
                    return Math.max(left, right);
            }
        }
    }

    /** The tokens of a text and where they start; END or the first BAD one is the last. */
    private static final class Tokens {
        final Tape tape;
        final int[] tokens;
        final int[] starts;
        int count;

        Tokens(Tape tape) {
            this.tape = tape;
            tokens = new int[tape.length + 1];
            starts = new int[tape.length + 1];
        }

        void split() {
            int at = 0;
            int gluedAt = NONE;
            int token = 0;
            for (int i = 0; i < tokens.length && token != BAD && token != END; i++) {
                while (at < tape.length && tape.hasBlankAt(at)) {
                    at++;
                }
                int to = endOf(at);
                // Words and numbers side by side need a blank; so a 5th digit is none, too.
                boolean isWhole = tape.hasLetterAt(at) || tape.hasDigitAt(at);
                token = isWhole && at == gluedAt ? BAD : tokenOf(at, to);
                tokens[i] = token;
                starts[i] = at;
                count = i + 1;
                at = to;
                gluedAt = isWhole ? to : NONE;
            }
        }

        private int endOf(int from) {
            int to = from;
            if (tape.hasLetterAt(from)) {
                while (to < tape.length && tape.hasLetterAt(to)) {
                    to++;
                }
                return to;
            }
            while (to < from + DIGITS_MOST && tape.hasDigitAt(to)) {
                to++;
            }
            return to > from ? to : Math.min(tape.length, from + 1);
        }

        private int tokenOf(int from, int to) {
            if (from >= tape.length) {
                return END;
            }
            if (tape.hasLetterAt(from)) {
                return ownWord(from, to);
            }
            if (tape.hasDigitAt(from)) {
                return NUMBER + valueOf(from, to);
            }
            return isSign(tape.byteAt(from)) ? tape.byteAt(from) : BAD;
        }

        private int valueOf(int from, int to) {
            int value = 0;
            for (int i = from; i < to; i++) {
                value = 10 * value + tape.byteAt(i) - '0';
            }
            return value;
        }

        private static boolean isSign(int found) {
            switch (found) {
                case '(':
                case ')':
                case '[':
                case ']':
                case '+':
                case '-':
                case '*':
                case '/':
                case '<':
                case '>':
                case '=':
                case ',':
                case ';':
                    return true;
                default:
                    return false;
            }
        }

        private int ownWord(int from, int to) {
            int number = 0;
            int start = 0;
            for (int i = 0; i < OWN_WORDS.length(); i++) {
                if (OWN_WORDS.charAt(i) == BLANK) {
                    if (i - start == to - from && isOwnWordAt(start, from, to)) {
                        return number;
                    }
                    number++;
                    start = i + 1;
                }
            }
            return BAD;
        }

        private boolean isOwnWordAt(int start, int from, int to) {
            for (int i = from; i < to; i++) {
                if (OWN_WORDS.charAt(start + i - from) != tape.byteAt(i)) {
                    return false;
                }
            }
            return true;
        }
    }

    /** Reads a text into a script, or finds its first fault. */
    private static final class Reader {
        final Script script;
        int faultKind;
        int faultPlace = NONE;
        private final Tokens tokens;
        private int at;
        // The token at hand: BAD from the first fault on, with which nothing goes on.
        private int token;

        Reader(Tape tape) {
            script = new Script(tape.length);
            tokens = new Tokens(tape);
        }

        void readAll() {
            tokens.split();
            token = tokens.tokens[0];
            for (int i = 0; i < STATEMENTS_MOST && faultKind == 0 && token != END; i++) {
                readStatement();
            }
            if (token != END) {
                fail(FAULT_STATEMENTS);
            }
            if (faultKind != 0) {
                faultPlace = tokens.starts[at];
            }
        }

        /** The first fault counts alone: later ones come of it, and nothing is passed then. */
        private void fail(int kind) {
            if (faultKind == 0) {
                faultKind = kind;
            }
            token = BAD;
        }

        private void pass() {
            if (at + 1 < tokens.count) {
                at++;
                token = tokens.tokens[at];
            }
        }

        private void passOnly(int wanted) {
            if (token == wanted) {
                pass();
            } else {
                fail(FAULT_TEXT);
            }
        }

        /** Passes what opens something, if not too much is open. */
        private void passOpening(int wanted, int open) {
            if (token != wanted) {
                fail(FAULT_TEXT);
            } else if (open >= OPEN_MOST) {
                fail(FAULT_OPEN);
            } else {
                pass();
            }
        }

        private void readStatement() {
            int kind = token;
            if (!isKind(kind)) {
                fail(FAULT_TEXT);
                return;
            }
            pass();
            int sumStart = script.length;
            readSum(0);
            passOnly(WHEN);
            int testStart = script.length;
            readTest(0);
            passOnly(';');
            script.close(kind, sumStart, testStart);
        }

        private void readTest(int open) {
            readBoth(open);
            for (int i = 0; i < TAPE_MOST && token == OR; i++) {
                pass();
                readBoth(open);
                script.put(OR);
            }
        }

        private void readBoth(int open) {
            readFact(open);
            for (int i = 0; i < TAPE_MOST && token == AND; i++) {
                pass();
                readFact(open);
                script.put(AND);
            }
        }

        private void readFact(int open) {
            if (open > OPEN_MOST) {
                return;
            }
            if (token == NOT) {
                passOpening(NOT, open);
                readFact(open + 1);
                script.put(NOT);
            } else if (token == '[') {
                passOpening('[', open);
                readTest(open + 1);
                passOnly(']');
            } else if (token == ALL || token == REAL) {
                script.put(token);
                pass();
            } else {
                readSum(open);
                int sign = token;
                if (sign == '<' || sign == '>' || sign == '=') {
                    pass();
                } else {
                    fail(FAULT_TEXT);
                }
                readSum(open);
                script.put(sign);
            }
        }

        private void readSum(int open) {
            readProduct(open);
            for (int i = 0; i < TAPE_MOST && (token == '+' || token == '-'); i++) {
                int sign = token;
                pass();
                readProduct(open);
                script.put(sign);
            }
        }

        private void readProduct(int open) {
            readPart(open);
            for (int i = 0; i < TAPE_MOST && (token == '*' || token == '/'); i++) {
                int sign = token;
                pass();
                readPart(open);
                script.put(sign);
            }
        }

        private void readPart(int open) {
            if (open > OPEN_MOST) {
                return;
            }
            if (token >= NUMBER || token >= GAP && token <= FAR) {
                script.put(token);
                pass();
            } else if (token == '(') {
                passOpening('(', open);
                readSum(open + 1);
                passOnly(')');
            } else if (token == MIN || token == MAX) {
                int which = token;
                pass();
                passOpening('(', open);
                readSum(open + 1);
                passOnly(',');
                readSum(open + 1);
                passOnly(')');
                script.put(which);
            } else {
                fail(FAULT_TEXT);
            }
        }
    }

    /** What is said: letters and blanks. */
    private static final class Speech {
        final byte[] bytes = new byte[SAID_MOST];
        int length;

        int byteAt(int k) {
            return k >= 0 && k < length ? bytes[k] : NONE;
        }

        void put(int letter) {
            if (length < SAID_MOST) {
                bytes[length] = (byte) letter;
                length++;
            }
        }

        void copy(Speech other) {
            System.arraycopy(other.bytes, 0, bytes, 0, SAID_MOST);
            length = other.length;
        }

        static boolean fits(Tape tape, int from, int many) {
            if (many < 1 || many > SAID_MOST) {
                return false;
            }
            for (int i = from; i < from + many; i++) {
                if (!tape.hasLetterAt(i) && tape.byteAt(i) != BLANK) {
                    return false;
                }
            }
            return true;
        }

        void take(Tape tape, int from, int many) {
            length = 0;
            for (int i = from; i < from + many; i++) {
                put(tape.byteAt(i));
            }
        }

        long keyOfBytes() {
            long key = 0;
            for (int i = 0; i < length; i++) {
                key = key * KEY_BASE + (bytes[i] == BLANK ? KEY_OF_BLANK : bytes[i] - BEFORE_A);
            }
            return key;
        }
    }

    /** The list of what was heard. */
    private static final class Notes {
        final int[] rowOf = new int[NOTES_MOST];
        final Speech[] texts = new Speech[NOTES_MOST];
        int count;

        Notes() {
            for (int i = 0; i < NOTES_MOST; i++) {
                texts[i] = new Speech();
            }
        }

        void add(int row, Speech speech) {
            if (count < NOTES_MOST) {
                rowOf[count] = row;
                texts[count].copy(speech);
                count++;
            }
        }

        /** Takes the notes of an image that has been found sound. */
        void readFrom(Tape tape) {
            count = Math.max(0, Math.min(NOTES_MOST, tape.byteAt(0)));
            int at = 1;
            for (int i = 0; i < count; i++) {
                rowOf[i] = tape.byteAt(at);
                int many = tape.byteAt(at + 1);
                texts[i].take(tape, at + 2, many);
                at += 2 + many;
            }
        }
    }

    /** An image of the list. */
    private static final class Picture {
        final byte[] octets = new byte[IMAGE_MOST];
        int length;

        void draw(Notes list) {
            length = 0;
            put(list.count);
            for (int i = 0; i < list.count; i++) {
                Speech text = list.texts[i];
                put(list.rowOf[i]);
                put(text.length);
                for (int j = 0; j < text.length; j++) {
                    put(text.bytes[j]);
                }
            }
            int check = CHECK_START;
            for (int i = 0; i < length; i++) {
                check = (3 * check + (octets[i] & 255)) % CHECK_BASE;
            }
            put(check);
        }

        private void put(int octet) {
            if (length < IMAGE_MOST) {
                octets[length] = (byte) octet;
                length++;
            }
        }

        static boolean isSound(Tape tape, int rowCount) {
            int count = tape.byteAt(0);
            if (count == NONE || count > NOTES_MOST) {
                return false;
            }
            int at = 1;
            for (int i = 0; i < count; i++) {
                int row = tape.byteAt(at);
                int many = tape.byteAt(at + 1);
                if (row == NONE || row >= rowCount || !Speech.fits(tape, at + 2, many)) {
                    return false;
                }
                at += 2 + many;
            }
            int check = CHECK_START;
            for (int i = 0; i < at; i++) {
                check = (3 * check + tape.byteAt(i)) % CHECK_BASE;
            }
            return at + 1 == tape.length && tape.byteAt(at) == check;
        }
    }
}
