import java.nio.charset.StandardCharsets;

/** Each promise of the document by examples: ordinary inputs, edges and wrong inputs. */
public final class PromisesTest {
    private static final int NONE = SlipDrawer.NONE;
    private static int wrong = 0;
    private static int looks = 0;

    private static void due(int promise, String what, int got, int want) {
        looks++;
        if (got != want) {
            wrong++;
            System.out.println("promise " + promise + ": " + what + " gave " + got + ", due is " + want);
        }
    }

    private static void due(int promise, String what, boolean got, boolean want) {
        due(promise, what, got ? 1 : 0, want ? 1 : 0);
    }

    private static void due(int promise, String what, String got, String want) {
        looks++;
        if (!got.equals(want)) {
            wrong++;
            System.out.println("promise " + promise + ": " + what + " gave '" + got + "', due is '" + want + "'");
        }
    }

    public static void main(String[] args) {
        newObject();
        tape();
        words();
        rows();
        counts();
        makings();
        faults();
        ears();
        kindsOfTakings();
        nearOnes();
        soundless();
        facts();
        arithmetic();
        weights();
        draws();
        heardAndLetters();
        whatGaveIt();
        theList();
        farAndFrame();
        partingRows();
        realsWishesLeans();
        images();
        due(1, "NONE", NONE, -1);
        System.out.println(looks + " answers looked at, " + wrong + " wrong");
        if (wrong != 0) {
            System.exit(1);
        }
    }

    // ---- helpers

    private static void tape(SlipDrawer x, String text) {
        x.end(0);
        byte[] bytes = text.getBytes(StandardCharsets.ISO_8859_1);
        for (int from = 0; from < bytes.length; from += 20) {
            int[] n = new int[5];
            for (int i = 0; i < 20; i++) {
                n[i / 4] = n[i / 4] << 8 | (from + i < bytes.length ? bytes[from + i] & 255 : 0);
            }
            x.feed(n[0], n[1], n[2], n[3], n[4]);
        }
        x.end(bytes.length);
    }

    private static int word(SlipDrawer x, String letters, int sort, int sense, int often) {
        tape(x, letters);
        return x.word(sort, sense, often);
    }

    private static int row(SlipDrawer x, int... given) {
        int[] all = {NONE, NONE, NONE, NONE, NONE, NONE};
        System.arraycopy(given, 0, all, 0, given.length);
        return x.row(all[0], all[1], all[2], all[3], all[4], all[5]);
    }

    private static int making(SlipDrawer x, int k, String text) {
        tape(x, text);
        return x.making(k);
    }

    private static int ear(SlipDrawer x, String text) {
        tape(x, text);
        return x.ear();
    }

    private static boolean hear(SlipDrawer x, String text) {
        tape(x, text);
        return x.hear();
    }

    private static String said(SlipDrawer x) {
        StringBuilder text = new StringBuilder();
        for (int i = 0; x.letter(i) != NONE; i++) {
            text.append((char) x.letter(i));
        }
        return text.toString();
    }

    /** All takings of a row: kind place other 'said'. */
    private static String all(SlipDrawer x, int row) {
        StringBuilder text = new StringBuilder();
        for (int k = 0; k < x.takings(row); k++) {
            x.tell(row, k);
            text.append(x.taking(row, k, 0)).append(' ').append(x.taking(row, k, 1)).append(' ')
                .append(x.taking(row, k, 2)).append(" '").append(said(x)).append("'; ");
        }
        return text.toString().trim();
    }

    // ---- the promises

    private static void newObject() {
        SlipDrawer x = new SlipDrawer();
        for (int what = 0; what <= 5; what++) {
            due(1, "has " + what, x.has(what), 0);
        }
        due(1, "letter", x.letter(0), NONE);
        due(1, "octet", x.octet(0), NONE);
        due(1, "fault", x.fault(0), 0);
        due(1, "fault's place", x.fault(1), NONE);
        due(1, "recall", x.recall(0), NONE);
    }

    private static void tape() {
        SlipDrawer x = new SlipDrawer();
        due(2, "feed", x.feed(0x61626364, 0x65666768, -1, 0, 0), 20);
        due(3, "end above", x.end(21), false);
        due(3, "end below 0", x.end(-1), false);
        due(3, "end at all", x.end(20), true);
        due(3, "end", x.end(8), true);
        due(3, "end of what went", x.end(9), false);
        due(2, "feed behind", x.feed(0, 0, 0, 0, 0), 28);
        x.end(8);
        due(2, "highest byte first", x.word(0, 0, 1), 0);
        x.feed(0x61626364, 0x65666768, 0, 0, 0);
        x.end(8);
        due(2, "the word that was fed", x.hear(), true);
        due(2, "the letters that were fed", said(x), "abcdefgh");
        for (int i = 1; i <= 105; i++) {
            due(2, "feed " + i, x.feed(i, i, i, i, i), 20 * i);
        }
        due(2, "a feed too many", x.feed(1, 1, 1, 1, 1), NONE);
        due(3, "end at 2100", x.end(2100), true);
        x.end(2081);
        due(2, "a feed to 2101", x.feed(1, 1, 1, 1, 1), NONE);
        x.end(2080);
        due(2, "a feed to 2100", x.feed(1, 1, 1, 1, 1), 2100);
        due(3, "end 0", x.end(0), true);
        due(2, "feed to an empty tape", x.feed(1, 1, 1, 1, 1), 20);
    }

    private static void words() {
        SlipDrawer x = new SlipDrawer();
        due(4, "a word", word(x, "cat", 0, 0, 1), 0);
        due(4, "the tape goes", x.end(1), false);
        due(4, "it is there", word(x, "cat", 1, 1, 2), NONE);
        due(4, "the tape goes when refused", x.end(1), false);
        due(4, "8 letters", word(x, "abcdefgh", 4, 9, 99), 1);
        due(4, "9 letters", word(x, "abcdefghi", 0, 0, 1), NONE);
        due(4, "no letters", word(x, "", 0, 0, 1), NONE);
        due(4, "1 letter", word(x, "z", 0, 0, 1), 2);
        due(4, "capital", word(x, "Cat", 0, 0, 1), NONE);
        due(4, "blank", word(x, "c t", 0, 0, 1), NONE);
        due(4, "before a", word(x, "`", 0, 0, 1), NONE);
        due(4, "behind z", word(x, "{", 0, 0, 1), NONE);
        due(4, "high byte", word(x, "c\u00e1t", 0, 0, 1), NONE);
        due(4, "sort -1", word(x, "dog", -1, 0, 1), NONE);
        due(4, "the tape goes when a number is wrong", x.end(1), false);
        due(4, "sort 5", word(x, "dog", 5, 0, 1), NONE);
        due(4, "sense -1", word(x, "dog", 0, -1, 1), NONE);
        due(4, "sense 10", word(x, "dog", 0, 10, 1), NONE);
        due(4, "often 0", word(x, "dog", 0, 0, 0), NONE);
        due(4, "often 100", word(x, "dog", 0, 0, 100), NONE);
        due(4, "what was refused is not there", word(x, "dog", 0, 0, 1), 3);
        for (int i = 4; i < 30; i++) {
            due(4, "word " + i, word(x, "w" + (char) ('a' + i - 4), 0, 0, 1), i);
        }
        due(4, "word 30", word(x, "dogs", 0, 0, 1), NONE);
        due(6, "30 words", x.has(0), 30);
    }

    private static void rows() {
        SlipDrawer x = new SlipDrawer();
        due(5, "a row without words", x.row(0, NONE, NONE, NONE, NONE, NONE), NONE);
        word(x, "cat", 0, 0, 1);
        word(x, "dog", 0, 0, 1);
        due(5, "a row of nothing", x.row(NONE, NONE, NONE, NONE, NONE, NONE), NONE);
        due(5, "NONE first", x.row(NONE, 0, NONE, NONE, NONE, NONE), NONE);
        due(5, "a gap", x.row(0, NONE, 1, NONE, NONE, NONE), NONE);
        due(5, "a gap ahead of the last", x.row(0, 0, 0, 0, NONE, 1), NONE);
        due(5, "no such word", x.row(0, 2, NONE, NONE, NONE, NONE), NONE);
        due(5, "-2", x.row(0, -2, NONE, NONE, NONE, NONE), NONE);
        due(5, "no such word at the end", x.row(0, 0, 0, 0, 0, 2), NONE);
        due(5, "one word", x.row(1, NONE, NONE, NONE, NONE, NONE), 0);
        due(5, "six words", x.row(0, 1, 0, 1, 0, 1), 1);
        due(5, "alike words", x.row(0, 0, NONE, NONE, NONE, NONE), 2);
        due(5, "alike rows", x.row(0, 0, NONE, NONE, NONE, NONE), 3);
        x.tell(1, 0);
        due(5, "what six words say", said(x), "cat dog cat dog cat dog");
        for (int i = 4; i < 12; i++) {
            due(5, "row " + i, x.row(0, 1, NONE, NONE, NONE, NONE), i);
        }
        due(5, "row 12", x.row(0, 1, NONE, NONE, NONE, NONE), NONE);
        due(6, "12 rows", x.has(1), 12);
    }

    private static void counts() {
        SlipDrawer x = new SlipDrawer();
        word(x, "cat", 0, 0, 1);
        word(x, "dog", 0, 0, 1);
        row(x, 0, 1);
        making(x, 3, "");
        making(x, 3, "none 1 when all;");
        making(x, 1, "none 1 when all;");
        hear(x, "a b c");
        x.note(0);
        x.note(0);
        x.note(0);
        due(6, "words", x.has(0), 2);
        due(6, "rows", x.has(1), 1);
        due(6, "makings", x.has(2), 2);
        due(6, "notes", x.has(3), 3);
        due(6, "letters and blanks", x.has(4), 5);
        due(6, "no ear", x.has(5), 0);
        ear(x, "");
        due(6, "an ear", x.has(5), 1);
        due(6, "-1", x.has(-1), NONE);
        due(6, "6", x.has(6), NONE);
    }

    private static void makings() {
        SlipDrawer x = new SlipDrawer();
        word(x, "cat", 0, 0, 1);
        row(x, 0);
        due(7, "no text", making(x, 0, ""), 0);
        due(7, "blanks alone", making(x, 0, " \n "), 0);
        due(7, "one statement", making(x, 0, "none 7 when all;"), 1);
        due(7, "the tape goes", x.end(1), false);
        due(7, "a fault", making(x, 0, "none 8 when all"), NONE);
        due(7, "the tape goes with a fault", x.end(1), false);
        due(7, "all stays", x.weight(0, 0, 0), 7);
        due(7, "in place of that which is there", making(x, 0, "none\n9 when\nall ; lost 1 when all;"), 2);
        due(7, "the new one", x.weight(0, 0, 0), 9);
        due(7, "making 4", making(x, 4, "none 1 when all;"), -2);
        due(7, "the tape goes with -2", x.end(1), false);
        due(7, "making -1", making(x, -1, "none when"), -2);
        due(9, "no fault is told", x.fault(0), 0);
        due(7, "making 3", making(x, 3, "lost 1 when all;"), 1);
        StringBuilder many = new StringBuilder();
        for (int i = 0; i < 20; i++) {
            many.append("none 1 when all;");
        }
        due(7, "20 statements", making(x, 2, many + "\n"), 20);
        due(7, "no blanks where none are needed", making(x, 1, "none(1)when[all];lost 2*(3)when not[gap<1]or real;"), 2);
    }

    private static void fault(String text, int kind, int place) {
        SlipDrawer x = new SlipDrawer();
        due(7, text, making(x, 0, text), kind == 0 ? 1 : NONE);
        due(9, "the fault of " + text, x.fault(0), kind);
        due(9, "its place in " + text, x.fault(1), place);
        due(8, text, ear(x, text), kind == 0 ? 1 : NONE);
        due(9, "as an ear's, the fault of " + text, x.fault(0), kind);
        due(9, "as an ear's, its place in " + text, x.fault(1), place);
    }

    private static void faults() {
        SlipDrawer x = new SlipDrawer();
        due(9, "another what", x.fault(2), NONE);
        due(9, "what -1", x.fault(-1), NONE);
        fault("none 1 when all;", 0, NONE);
        fault("nones 1 when all;", 1, 0);
        fault("None 1 when all;", 1, 0);
        fault("when 1 when all;", 1, 0);
        fault("5 1 when all;", 1, 0);
        fault(" \n;", 1, 2);
        fault("none", 1, 4);
        fault("none  ", 1, 6);
        fault("none1 when all;", 1, 4);
        fault("none 1when all;", 1, 6);
        fault("none 1 when gap<2and all;", 1, 17);
        fault("none 12345 when all;", 1, 9);
        fault("none 1234 when all;", 0, NONE);
        fault("none 0000 when all;", 0, NONE);
        fault("none 00001 when all;", 1, 9);
        fault("none 1 2 when all;", 1, 7);
        fault("none 1 23456 when all;", 1, 7);
        fault("none -1 when all;", 1, 5);
        fault("none real when all;", 1, 5);
        fault("none all when all;", 1, 5);
        fault("none 1 wh", 1, 7);
        fault("none 1 when", 1, 11);
        fault("none 1 when all", 1, 15);
        fault("none 1 when all,", 1, 15);
        fault("none 1 when alls;", 1, 12);
        fault("none 1 when (all);", 1, 13);
        fault("none 1 when [1];", 1, 14);
        fault("none 1 when [all);", 1, 16);
        fault("none 1 when 1 < 2 < 3;", 1, 18);
        fault("none 1 when 1 <= 2;", 1, 15);
        fault("none 1 when not;", 1, 15);
        fault("none 1 when all or;", 1, 18);
        fault("none 1 when all and;", 1, 19);
        fault("none 1 when all all;", 1, 16);
        fault("none (1 when all;", 1, 8);
        fault("none 1) when all;", 1, 6);
        fault("none min(1,2,3) when all;", 1, 12);
        fault("none min(1) when all;", 1, 10);
        fault("none min 1,2 when all;", 1, 9);
        fault("none 1\t when all;", 1, 6);
        fault("none 1\r when all;", 1, 6);
        fault("none 1\u00ff when all;", 1, 6);
        fault("none 1\u0000 when all;", 1, 6);
        fault("none 1 when all;;", 1, 16);
        fault("none ((((((1)))))) when all;", 0, NONE);
        fault("none (((((((1))))))) when all;", 4, 11);
        fault("none (((((((", 4, 11);
        fault("none ((((((", 1, 11);
        fault("none ((((((1)+(2))))) - (3)) when all;", 0, NONE);
        fault("none ((((((1))))))+((((((2)))))) when all;", 0, NONE);
        fault("none min(min(min(min(min(min(1,2),3),4),5),6),7) when all;", 0, NONE);
        fault("none min(min(min(min(min(min(min(1,2),3),4),5),6),7),8) when all;", 4, 32);
        fault("none 1 when not not not not not not all;", 0, NONE);
        fault("none 1 when not not not not not not not all;", 4, 36);
        fault("none 1 when not [not [not [all]]];", 0, NONE);
        fault("none 1 when not [not [not [not all]]];", 4, 27);
        fault("none 1 when not [not [not [(1) = 1]]];", 4, 27);
        fault("none 1 when not [not [not [1 = (1)]]];", 4, 31);
        fault("none 1 when not not not not not not all and not all or not [all];", 0, NONE);
        fault("none 1 when not not not not not not 1 = (1);", 4, 40);
        fault("none 1 when not not not not not not 1 = 1 or (1) = 1;", 0, NONE);
        fault("none 1 when [[[[[[[", 4, 18);
        StringBuilder twenty = new StringBuilder();
        for (int i = 0; i < 20; i++) {
            twenty.append("lost 1 when all;");
        }
        fault(twenty + " none 1 when all;", 5, 321);
        fault(twenty + "\u00ff", 5, 320);
        fault(twenty + ";", 5, 320);
        fault(twenty + " \n7", 5, 322);
        String longer = "none 1 when gap = 12";
        tape(x, longer);
        x.end(longer.length() - 1);
        due(7, "a text that goes on behind the tape's end", x.making(0), NONE);
        due(9, "its fault is at the end", x.fault(1), longer.length() - 1);
        making(x, 0, "none");
        making(x, 0, "none 1 when all;");
        due(9, "a sound one behind a fault", x.fault(0), 0);
        due(9, "and no place", x.fault(1), NONE);
    }

    private static void ears() {
        SlipDrawer x = new SlipDrawer();
        word(x, "cat", 0, 0, 50);
        row(x, 0);
        due(11, "heard without an ear", x.taking(0, 1, 4), 100);
        due(8, "a fault", ear(x, "none"), NONE);
        due(8, "the tape goes", x.end(1), false);
        due(8, "no ear with a fault", x.has(5), 0);
        due(11, "heard with a faulty one", x.taking(0, 0, 4), 100);
        due(8, "an ear", ear(x, "none 101 when all; lost own - 8 when real; lost own when all;"), 3);
        due(11, "above 100", x.taking(0, 0, 4), 100);
        due(11, "by the ear", x.taking(0, 1, 4), 50);
        ear(x, "lost 3 - 4 when all;");
        due(11, "none of that kind", x.taking(0, 0, 4), 0);
        due(11, "below 0", x.taking(0, 1, 4), 0);
        due(8, "a fault later", ear(x, "lost"), NONE);
        due(11, "all stays", x.taking(0, 0, 4), 0);
        due(8, "an empty ear", ear(x, ""), 0);
        due(11, "by an empty ear", x.taking(0, 0, 4), 0);
    }

    private static void kindsOfTakings() {
        SlipDrawer x = new SlipDrawer();
        word(x, "cat", 0, 1, 10);
        word(x, "dog", 0, 1, 20);
        word(x, "ant", 1, 1, 30);
        row(x, 0, 1, 2);
        due(10, "takings", x.takings(0), 19);
        due(10, "no such row", x.takings(1), NONE);
        due(10, "row -1", x.takings(-1), NONE);
        due(11, "all takings", all(x, 0), "0 -1 -1 'cat dog ant'; "
            + "1 0 1 'dat dog ant'; 1 0 2 'at dog ant'; 1 1 2 'cat og ant'; "
            + "2 1 0 'cat cog ant'; 2 2 0 'cat dog cant'; 2 2 1 'cat dog dant'; "
            + "3 0 1 'dat cog ant'; 3 0 2 'at dog cant'; 3 1 2 'cat og dant'; "
            + "4 0 1 'dog cat ant'; 4 0 2 'ant dog cat'; 4 1 2 'cat ant dog'; "
            + "5 0 1 'cog dog ant'; 5 1 0 'cat dat ant'; "
            + "7 0 1 'dog dog ant'; 7 1 0 'cat cat ant'; "
            + "8 0 -1 'at dog ant'; 8 1 -1 'cat og ant';");
    }

    private static void nearOnes() {
        SlipDrawer x = new SlipDrawer();
        word(x, "cat", 0, 0, 1);
        word(x, "bat", 0, 1, 1);
        word(x, "cats", 0, 2, 1);
        word(x, "at", 0, 3, 1);
        word(x, "ct", 0, 4, 1);
        word(x, "cant", 0, 5, 1);
        word(x, "tac", 0, 6, 1);
        word(x, "cot", 1, 0, 1);
        word(x, "bats", 0, 7, 1);
        word(x, "ca", 0, 8, 1);
        row(x, 0);
        due(11, "near ones of cat", all(x, 0), "0 -1 -1 'cat'; 6 0 1 'bat'; 6 0 2 'cats'; 6 0 3 'at'; 6 0 4 'ct'; "
            + "6 0 5 'cant'; 6 0 9 'ca'; 8 0 -1 'at';");
        due(11, "a what too many", x.taking(0, 0, 6), NONE);
        due(11, "what -1", x.taking(0, 0, -1), NONE);
        due(11, "taking -1", x.taking(0, -1, 0), NONE);
        due(11, "a taking too many", x.taking(0, 8, 0), NONE);
        due(11, "no such row", x.taking(1, 0, 0), NONE);
        word(x, "cut", 0, 9, 1);
        due(10, "a later word counts, too", x.takings(0), 9);
    }

    private static void soundless() {
        SlipDrawer x = new SlipDrawer();
        word(x, "sh", 0, 0, 1);
        word(x, "oh", 0, 0, 1);
        word(x, "sho", 0, 0, 1);
        word(x, "tsk", 0, 0, 1);
        row(x, 0, 1);
        due(11, "without a vowel all letters are the onset", all(x, 0), "0 -1 -1 'sh oh'; 1 0 1 ' oh'; "
            + "2 1 0 'sh shoh'; 3 0 1 ' shoh'; 4 0 1 'oh sh'; "
            + "5 0 1 'shoh oh'; 5 0 2 'sho oh'; 5 1 2 'sh o'; "
            + "6 0 1 'oh oh'; 6 0 2 'sho oh'; 6 1 0 'sh sh'; "
            + "7 0 1 'oh oh'; 7 0 2 'sho oh'; 7 0 3 'tsk oh'; 7 1 0 'sh sh'; 7 1 2 'sh sho'; 7 1 3 'sh tsk';");
        due(11, "far of a word that is gone", x.taking(0, 1, 5), 2);
        due(11, "nothing is no word", x.taking(0, 1, 3), 0);
        due(13, "a blank ahead", x.tell(0, 1), 3);
        due(16, "a blank", x.letter(0), 32);
        row(x, 1, 1);
        due(10, "alike words change nothing with one another", x.reals(1, 1, false), 0);
        due(10, "nor are they traded", x.reals(1, 4, false), 0);
        SlipDrawer y = new SlipDrawer();
        word(y, "bat", 0, 0, 1);
        word(y, "bit", 0, 1, 1);
        row(y, 0, 1);
        due(10, "like onsets are not taken", all(y, 0), "0 -1 -1 'bat bit'; 4 0 1 'bit bat'; 6 0 1 'bit bit'; "
            + "6 1 0 'bat bat'; 8 0 -1 'at bit'; 8 1 -1 'bat it';");
    }

    private static void facts() {
        SlipDrawer x = new SlipDrawer();
        word(x, "cat", 0, 1, 10);
        word(x, "dog", 0, 1, 20);
        word(x, "ant", 1, 1, 30);
        word(x, "cog", 2, 2, 5);
        row(x, 0, 1, 2);
        String[] names = {"gap", "place", "words", "often", "own", "sort", "far"};
        int[] takings = {0, 1, 2, 5, 8, 11, 13, 14, 15, 17};
        // none, early 0 1, early 0 2, late 2 0, swap 0 2, trade 0 2, blend 0 1, blend 1 0, sense 0 1, lost 0
        int[][] want = {
            {0, 0, 3, 0, 0, 0, 0},
            {1, 0, 3, 20, 10, 1, 1},
            {2, 0, 3, 30, 10, 0, 3},
            {2, 2, 3, 10, 30, 0, 4},
            {2, 0, 3, 30, 10, 0, 3},
            {2, 0, 3, 30, 10, 0, 2},
            {0, 0, 3, 20, 10, 1, 2},
            {0, 1, 3, 10, 20, 1, 2},
            {0, 0, 3, 20, 10, 1, 3},
            {0, 0, 3, 0, 10, 0, 3},
        };
        for (int f = 0; f < names.length; f++) {
            StringBuilder text = new StringBuilder();
            for (String kind : Model.KINDS) {
                text.append(kind).append(" 100 + ").append(names[f]).append(" when all;");
            }
            making(x, 0, text.toString());
            for (int i = 0; i < takings.length; i++) {
                due(12, names[f] + " of taking " + takings[i], x.weight(0, takings[i], 0), 100 + want[i][f]);
            }
        }
        making(x, 0, "none 1 when real; blend 1 when real; blend 2 when not real; late 5 when real; late 6 when all;");
        due(12, "none is real", x.weight(0, 0, 0), 1);
        due(12, "cog is real", x.weight(0, 13, 0), 1);
        due(12, "dat is not", x.weight(0, 14, 0), 2);
        due(12, "late cog is real", x.weight(0, 4, 0), 5);
        due(12, "late cant is not", x.weight(0, 5, 0), 6);
        due(11, "early dat", x.taking(0, 1, 3), 0);
        due(11, "a swap with one real word of two", x.taking(0, 7, 3), 0);
        due(11, "a trade", x.taking(0, 10, 3), 1);
    }

    private static void sum(String sum, int want) {
        SlipDrawer x = new SlipDrawer();
        word(x, "cat", 0, 0, 7);
        row(x, 0);
        due(7, sum, making(x, 0, "none " + sum + " when all;"), 1);
        due(12, sum, x.weight(0, 0, 0), want);
    }

    private static void test(String test, boolean want) {
        SlipDrawer x = new SlipDrawer();
        word(x, "cat", 0, 0, 7);
        row(x, 0);
        due(7, test, making(x, 0, "none 1 when " + test + ";"), 1);
        due(12, test, x.weight(0, 0, 0), want ? 1 : 0);
    }

    private static void arithmetic() {
        sum("1 + 2 * 3", 7);
        sum("(1 + 2) * 3", 9);
        sum("10 - 3 - 2", 5);
        sum("100 / 7 / 2", 7);
        sum("2 * 7 / 3", 4);
        sum("7 / 3 * 2", 4);
        sum("100 + (0 - 7) / 2", 96);
        sum("100 + 7 / (0 - 2)", 96);
        sum("100 + (0 - 7) / (0 - 2)", 103);
        sum("100 + 5 / 0", 100);
        sum("100 + 0 / 0", 100);
        sum("0 - 1", 0);
        sum("1000", 1000);
        sum("1001", 1000);
        sum("9999 * 9999 / 1000", 1000);
        sum("9999 * 9999 / 2000", 500);
        sum("(0 - 9999) * 9999 / 2000 + 600", 100);
        sum("(9999 * 9999 + 9999) / 2000", 500);
        sum("(9999 * 9999 + 9999 - 9000) / 1000", 991);
        sum("(0 - 9999 * 9999 - 1) / 1000 + 1500", 500);
        sum("(0 - 9999 * 9999) * (0 - 9999 * 9999) / 2000", 500);
        sum("min(3, 2) + max(30, 40)", 42);
        sum("min(2, 3) * max(40, 30)", 80);
        sum("max(0 - 5, min(9, words))", 1);
        test("1 < 2", true);
        test("2 < 2", false);
        test("2 > 1", true);
        test("2 > 2", false);
        test("2 = 2", true);
        test("2 = 1", false);
        test("not all", false);
        test("not not all", true);
        test("not 1 = 2", true);
        test("all or all and not all", true);
        test("[all or all] and not all", false);
        test("not all and all or all", true);
        test("not [all and not all]", true);
        test("not all or not all", false);
        test("0 - 1 < 0", true);
        test("words = 1 and gap = 0 and own = 0 and often = 0 and real", true);
    }

    private static void weights() {
        SlipDrawer x = new SlipDrawer();
        word(x, "cat", 0, 0, 10);
        word(x, "cot", 0, 0, 20);
        row(x, 0);
        // none, blend 0 1 (cot), near 0 1 (cot), sense 0 1 (cot), lost 0 (at)
        making(x, 0, "near 5 when often > 20; near 6 when often > 19; near 7 when all; lost 2000 when all; none 0 - 9 when all;");
        due(12, "none, below 0", x.weight(0, 0, 0), 0);
        due(12, "blend, without a statement", x.weight(0, 1, 0), 0);
        due(12, "near, the first whose test holds", x.weight(0, 2, 0), 6);
        due(12, "lost, above 1000", x.weight(0, 4, 0), 1000);
        due(12, "TOTAL", x.weight(0, NONE, 0), 1006);
        due(12, "taking 5", x.weight(0, 5, 0), NONE);
        due(12, "taking -2", x.weight(0, -2, 0), NONE);
        due(12, "no such row", x.weight(1, 0, 0), NONE);
        due(12, "no such row for a TOTAL", x.weight(-1, NONE, 0), NONE);
        due(12, "no such making", x.weight(0, 0, 1), NONE);
        due(12, "making 4 is none", x.weight(0, 0, 4), NONE);
        due(12, "making -1 is none", x.weight(0, 0, -1), NONE);
        ear(x, "none 1 when all;");
        due(12, "the ear is no making", x.weight(0, 0, 4), NONE);
        due(21, "mostly", x.mostly(0, 0), 4);
        making(x, 0, "blend 3 when all; near 3 when all; none 2 when all;");
        due(21, "the first of like ones", x.mostly(0, 0), 1);
        making(x, 0, "trade 3 when all;");
        due(21, "without TOTAL", x.mostly(0, 0), NONE);
        due(21, "no such row", x.mostly(1, 0), NONE);
        due(21, "no such making", x.mostly(0, 1), NONE);
        due(22, "never a trade of one word", x.never(0, 4), 1);
        making(x, 1, "near 1 when all; lost 0 when all;");
        due(22, "near ones", x.never(1, 6), 0);
        due(22, "lost of no weight", x.never(1, 8), 1);
        due(22, "no such making", x.never(2, 0), NONE);
        due(22, "making -1", x.never(-1, 0), NONE);
        due(22, "no such kind", x.never(1, 9), NONE);
        due(22, "kind -1", x.never(1, -1), NONE);
        word(x, "zoo", 1, 1, 1);
        row(x, 0, 2);
        due(22, "a trade in another row", x.never(0, 4), 0);
        SlipDrawer y = new SlipDrawer();
        making(y, 0, "none 1 when all;");
        due(22, "without rows", y.never(0, 0), 1);
    }

    private static void draws() {
        SlipDrawer x = new SlipDrawer();
        word(x, "cat", 0, 0, 10);
        word(x, "cot", 0, 0, 20);
        row(x, 0);
        making(x, 0, "blend 10 when all; lost 39 when all;");
        // seed 0: x = 12345, 12345 / 256 = 48, below 49
        due(14, "seed 0", x.say(0, 0, 0), 4);
        due(14, "what it gives", said(x), "at");
        making(x, 0, "blend 40 when all; lost 9 when all;");
        due(14, "seed 0, the last of them", x.say(0, 0, 0), 4);
        making(x, 0, "blend 49 when all; lost 500 when all;");
        due(14, "seed 0, less than the first weight", x.say(0, 0, 0), 1);
        due(14, "what that gives", said(x), "cot");
        making(x, 0, "blend 48 when all; lost 500 when all;");
        due(14, "seed 0, not less than the first weight", x.say(0, 0, 0), 4);
        // seed 2147483647: (1103515245 * 2147483647 + 12345) mod 2^31 = 1043980748, / 256 = 4078049, mod 548 = 381
        due(14, "the greatest seed", x.say(0, 0, 2147483647), 4);
        making(x, 0, "none 381 when all; lost 167 when all;");
        due(14, "the greatest seed, not less than 381", x.say(0, 0, 2147483647), 4);
        making(x, 0, "none 382 when all; lost 166 when all;");
        due(14, "the greatest seed, less than 382", x.say(0, 0, 2147483647), 0);
        due(14, "seed below 0", x.say(0, 0, -1), NONE);
        due(14, "the said stays", said(x), "cat");
        due(14, "no such row", x.say(1, 0, 1), NONE);
        due(14, "no such making", x.say(0, 1, 1), NONE);
        making(x, 0, "");
        due(14, "without TOTAL", x.say(0, 0, 1), NONE);
        due(13, "tell", x.tell(0, 4), 2);
        due(13, "what it tells", said(x), "at");
        due(13, "taking 5", x.tell(0, 5), NONE);
        due(13, "taking -1", x.tell(0, -1), NONE);
        due(13, "no such row", x.tell(1, 0), NONE);
        due(13, "the said stays", said(x), "at");
    }

    private static void heardAndLetters() {
        SlipDrawer x = new SlipDrawer();
        due(15, "hear", hear(x, "  a zebra "), true);
        due(15, "the tape goes", x.end(1), false);
        due(15, "what was heard", said(x), "  a zebra ");
        due(16, "letter 0", x.letter(0), 32);
        due(16, "letter 2", x.letter(2), 97);
        due(16, "letter 9", x.letter(9), 32);
        due(16, "letter 10", x.letter(10), NONE);
        due(16, "letter -1", x.letter(-1), NONE);
        due(15, "nothing", hear(x, ""), false);
        due(15, "a capital", hear(x, "Zebra"), false);
        due(15, "the tape goes when refused", x.end(1), false);
        due(15, "a line's end", hear(x, "a\nb"), false);
        due(15, "a digit", hear(x, "a1"), false);
        due(15, "a high byte", hear(x, "a\u00e9"), false);
        due(15, "the said stays", said(x), "  a zebra ");
        due(15, "101", hear(x, "x".repeat(101)), false);
        due(15, "100", hear(x, "x".repeat(100)), true);
        due(6, "100 of them", x.has(4), 100);
        due(15, "one blank", hear(x, " "), true);
        due(6, "one of them", x.has(4), 1);
    }

    private static SlipDrawer zoo() {
        SlipDrawer x = new SlipDrawer();
        word(x, "cat", 0, 1, 10);
        word(x, "hat", 0, 1, 20);
        word(x, "dog", 1, 2, 30);
        row(x, 0, 1);
        row(x, 0, 2);
        row(x, 1, 0);
        making(x, 0, "none 4 when all; early 1 when all; near 2 when all; sense 3 when all;");
        making(x, 1, "none 1 when all; trade 1 when all;");
        making(x, 2, "blend 1 when gap > 0;");
        return x;
    }

    private static void whatGaveIt() {
        SlipDrawer x = zoo();
        due(17, "with nothing said", x.ways(0, NONE), 0);
        due(18, "odds with nothing said", x.odds(0, 0, true), 0);
        due(18, "odds with nothing said, below", x.odds(0, 0, false), 1);
        due(20, "meant with nothing said", x.meant(NONE), 0);
        // cat hat: early, near, sense give hat hat; blends give nothing, for the rests are alike
        hear(x, "hat hat");
        due(17, "ways", x.ways(0, NONE), 3);
        due(17, "early", x.ways(0, 1), 1);
        due(17, "late", x.ways(0, 2), 0);
        due(17, "blend", x.ways(0, 5), 0);
        due(17, "near", x.ways(0, 6), 1);
        due(17, "sense", x.ways(0, 7), 1);
        due(17, "another row", x.ways(1, NONE), 0);
        due(17, "kind 9", x.ways(0, 9), NONE);
        due(17, "kind -2", x.ways(0, -2), NONE);
        due(17, "no such row", x.ways(3, NONE), NONE);
        // weights: none 4, early 1, near 2 + 2, sense 3 + 3
        due(18, "odds above", x.odds(0, 0, true), 2);
        due(18, "odds below", x.odds(0, 0, false), 5);
        due(18, "odds of 0", x.odds(0, 1, true), 0);
        due(18, "odds of 0, below", x.odds(0, 1, false), 1);
        due(18, "without TOTAL", x.odds(0, 2, true), NONE);
        due(18, "no such making", x.odds(0, 3, true), NONE);
        due(18, "no such row", x.odds(-1, 0, true), NONE);
        due(19, "told near", x.told(0, 0, 6, true), 1);
        due(19, "told near, below", x.told(0, 0, 6, false), 3);
        due(19, "told none", x.told(0, 0, 0, true), 0);
        due(19, "told none, below", x.told(0, 0, 0, false), 1);
        due(19, "odds of 0", x.told(0, 1, 4, true), NONE);
        due(19, "without TOTAL", x.told(0, 2, 4, true), NONE);
        due(19, "no such kind", x.told(0, 0, 9, true), NONE);
        due(19, "kind -1", x.told(0, 0, -1, true), NONE);
        due(19, "no such row", x.told(3, 0, 1, true), NONE);
        due(19, "no such making", x.told(0, 3, 1, true), NONE);
        // hat cat: late gives hat hat without a weight, near and sense give it with one
        due(20, "meant by 0", x.meant(0), 5);
        due(20, "meant by 1", x.meant(1), 0);
        due(20, "meant by any weight", x.meant(NONE), 5);
        due(20, "no such making", x.meant(3), NONE);
        due(20, "making -2", x.meant(-2), NONE);
        hear(x, "hat cat");
        due(20, "a trade, or none", x.meant(1), 5);
        due(20, "none alone has a weight", x.meant(0), 4);
        hear(x, "dog cat");
        due(20, "row 1", x.meant(1), 2);
        hear(x, "cat");
        due(20, "too short", x.meant(NONE), 0);
        hear(x, "cat hat ");
        due(20, "a blank more", x.meant(NONE), 0);
        hear(x, "cat  hat");
        due(20, "two blanks", x.meant(NONE), 0);
    }

    private static void theList() {
        SlipDrawer x = zoo();
        due(23, "nothing said", x.note(0), NONE);
        due(24, "without notes", x.undo(), NONE);
        hear(x, "hat hat");
        due(23, "a note", x.note(0), 1);
        due(23, "no such row", x.note(3), NONE);
        due(23, "row -1", x.note(-1), NONE);
        hear(x, "dog cat");
        due(23, "another note", x.note(1), 2);
        due(25, "recall 0", x.recall(0), 0);
        due(25, "the said", said(x), "hat hat");
        due(25, "recall 1", x.recall(1), 1);
        due(25, "the other said", said(x), "dog cat");
        due(25, "recall 2", x.recall(2), NONE);
        due(25, "recall -1", x.recall(-1), NONE);
        due(25, "the said stays", said(x), "dog cat");
        due(26, "thrown 0", x.thrown(0), 1);
        due(26, "thrown 1", x.thrown(1), 0);
        due(26, "thrown without TOTAL", x.thrown(2), 0);
        due(26, "no such making", x.thrown(3), NONE);
        due(26, "making -1", x.thrown(-1), NONE);
        due(27, "0 above 1", x.better(0, 1), 1);
        due(27, "1 above 0", x.better(1, 0), 1);
        due(27, "0 above 2", x.better(0, 2), 1);
        due(27, "2 above 0", x.better(2, 0), 0);
        due(27, "0 above itself", x.better(0, 0), 0);
        due(27, "no such first", x.better(3, 0), NONE);
        due(27, "no such second", x.better(0, 3), NONE);
        due(28, "early", x.kinds(1), 1);
        due(28, "trade", x.kinds(4), 1);
        due(28, "none", x.kinds(0), 0);
        due(28, "kind -1", x.kinds(-1), NONE);
        due(28, "kind 9", x.kinds(9), NONE);
        due(24, "undo", x.undo(), 1);
        due(26, "not thrown", x.thrown(0), NONE);
        due(24, "undo the last", x.undo(), 0);
        due(26, "not thrown without notes", x.thrown(1), NONE);
        hear(x, "zzz");
        for (int i = 1; i <= 20; i++) {
            due(23, "note " + i, x.note(2), i);
        }
        due(23, "note 21", x.note(2), NONE);
        due(6, "20 notes", x.has(3), 20);
        due(26, "what nothing gives", x.thrown(0), 0);
        // like odds through unlike totals: 4 / 15 and 8 / 30
        SlipDrawer y = zoo();
        making(y, 1, "none 8 when all; sense 22 when place = 0;");
        y.tell(0, 0);
        y.note(0);
        due(27, "like odds", y.better(0, 1), 0);
        due(27, "like odds, the other way", y.better(1, 0), 0);
    }

    private static void farAndFrame() {
        SlipDrawer x = new SlipDrawer();
        word(x, "cat", 0, 1, 10);
        word(x, "hat", 0, 2, 20);
        word(x, "dog", 1, 3, 30);
        word(x, "hog", 1, 4, 30);
        row(x, 0, 2, 1, 3);
        due(29, "without notes", x.far(true), NONE);
        due(30, "without notes", x.frame(true), 0);
        hear(x, "cat dog cat hog");
        x.note(0);
        due(29, "a late one alone", x.far(true), NONE);
        // cat dog hat hog: hat dog hat hog comes of place 2 and of place 3
        hear(x, "hat dog hat hog");
        x.note(0);
        due(29, "the least of two gaps", x.far(true), 2);
        due(29, "least", x.far(false), 2);
        // a swap of places 0 and 3
        hear(x, "hat dog hat cog");
        x.note(0);
        due(29, "the greatest", x.far(true), 3);
        due(29, "the least", x.far(false), 2);
        hear(x, "dat dog hat hog");
        x.note(0);
        due(29, "a neighbour", x.far(false), 1);
        due(29, "the greatest still", x.far(true), 3);
        hear(x, "hat dog cat hog");
        x.note(0);
        hear(x, "dog cat hat hog");
        x.note(0);
        hear(x, "cat hat dog hog");
        x.note(0);
        due(30, "of one sort", x.frame(true), 1);
        due(30, "of two", x.frame(false), 2);
        // a trade and a swap of the same: cat hat
        due(28, "swaps", x.kinds(3), 2);
        due(28, "trades", x.kinds(4), 3);
    }

    private static void partingRows() {
        SlipDrawer x = new SlipDrawer();
        word(x, "cat", 0, 1, 10);
        word(x, "hat", 0, 1, 20);
        due(32, "without rows and makings", x.next(), NONE);
        row(x, 0);
        row(x, 0, 1);
        row(x, 1, 0);
        due(32, "without makings", x.next(), NONE);
        making(x, 0, "none 1 when all;");
        due(32, "with one making", x.next(), NONE);
        making(x, 3, "none 1 when all;");
        due(31, "alike makings", x.apart(1, 0, 3), 0);
        due(32, "the first of like rows", x.next(), 0);
        making(x, 3, "none 1 when all; early 1 when all; lost 1 when place = 0;");
        // cat: none 1, lost 1 | cat hat: none 1, early 1, lost 1
        due(31, "on row 0", x.apart(0, 0, 3), 1000000);
        due(31, "the other way", x.apart(0, 3, 0), 1000000);
        due(31, "on row 1, 4 / 3", x.apart(1, 0, 3), 1333333);
        due(31, "one with itself", x.apart(1, 3, 3), 0);
        due(32, "the row that parts most, the first", x.next(), 1);
        making(x, 1, "near 1 when all;");
        making(x, 2, "sense 1 when all;");
        due(31, "the same said by other kinds", x.apart(0, 1, 2), 0);
        due(31, "all unlike", x.apart(0, 0, 1), 2000000);
        // row 0: 2 2 1 0 2 2 | row 1: 2 2 4/3 0 5/3 5/3
        due(32, "of four makings, by twos", x.next(), 0);
        making(x, 1, "trade 1 when all;");
        due(31, "without a TOTAL", x.apart(0, 0, 1), 0);
        due(31, "no such row", x.apart(3, 0, 1), NONE);
        SlipDrawer y = new SlipDrawer();
        making(y, 0, "");
        making(y, 1, "");
        due(32, "without rows", y.next(), NONE);
        word(y, "cat", 0, 1, 10);
        row(y, 0);
        due(32, "without any TOTAL", y.next(), 0);
        due(31, "no such first", y.apart(0, 2, 1), NONE);
        due(31, "no such second", y.apart(0, 1, 2), NONE);
        due(31, "making -1", y.apart(0, -1, 0), NONE);
    }

    private static void realsWishesLeans() {
        SlipDrawer x = new SlipDrawer();
        word(x, "cat", 0, 1, 10);
        word(x, "hat", 0, 1, 20);
        word(x, "at", 2, 7, 5);
        word(x, "dog", 1, 2, 5);
        row(x, 0, 1, 3);
        due(33, "none", x.reals(0, 0, true), 1);
        due(33, "early in all", x.reals(0, 1, false), 3);
        due(33, "early, real: hat", x.reals(0, 1, true), 1);
        due(33, "swaps in all", x.reals(0, 3, false), 3);
        due(33, "swaps, real: hat cat", x.reals(0, 3, true), 1);
        due(33, "lost in all", x.reals(0, 8, false), 3);
        due(33, "lost, real: at, at", x.reals(0, 8, true), 2);
        due(33, "kind 9", x.reals(0, 9, true), NONE);
        due(33, "kind -1", x.reals(0, -1, false), NONE);
        due(33, "no such row", x.reals(1, 0, true), NONE);
        making(x, 0, "none 3 when all; lost 2 when all; trade 1 when all;");
        // 3 + 6 + 3
        due(34, "at", x.wish(0, 0, 7, true), 1);
        due(34, "at, below", x.wish(0, 0, 7, false), 3);
        due(34, "cat or hat, in each trade", x.wish(0, 0, 1, true), 1);
        due(34, "cat or hat, below", x.wish(0, 0, 1, false), 4);
        due(34, "dog", x.wish(0, 0, 2, true), 1);
        due(34, "dog, below", x.wish(0, 0, 2, false), 6);
        due(34, "no word of that sense", x.wish(0, 0, 0, true), 0);
        due(34, "no word of that sense, below", x.wish(0, 0, 0, false), 1);
        due(34, "sense 10", x.wish(0, 0, 10, true), NONE);
        due(34, "sense -1", x.wish(0, 0, -1, true), NONE);
        due(34, "no such row", x.wish(1, 0, 1, true), NONE);
        due(34, "no such making", x.wish(0, 1, 1, true), NONE);
        making(x, 1, "");
        due(34, "without TOTAL", x.wish(0, 1, 1, true), NONE);
        due(35, "without an ear", x.lean(0, 0, 8, true), 1);
        due(35, "without an ear, below", x.lean(0, 0, 8, false), 2);
        ear(x, "none 10 when all; lost 50 when real;");
        // 3 * 10 + 2 * 2 * 50
        due(35, "lost", x.lean(0, 0, 8, true), 20);
        due(35, "lost, below", x.lean(0, 0, 8, false), 23);
        due(35, "trade", x.lean(0, 0, 4, true), 0);
        due(35, "trade, below", x.lean(0, 0, 4, false), 1);
        due(35, "kind 9", x.lean(0, 0, 9, true), NONE);
        due(35, "kind -1", x.lean(0, 0, -1, true), NONE);
        due(35, "no such row", x.lean(1, 0, 1, true), NONE);
        due(35, "no such making", x.lean(0, 2, 1, true), NONE);
        due(35, "without TOTAL", x.lean(0, 1, 1, true), NONE);
        ear(x, "sense 100 when all;");
        due(35, "nothing is heard", x.lean(0, 0, 8, true), NONE);
    }

    private static void image(SlipDrawer x, String bytes, boolean want) {
        int check = 7;
        for (int i = 0; i < bytes.length(); i++) {
            check = (3 * check + bytes.charAt(i)) % 251;
        }
        tape(x, bytes + (char) check);
        due(38, "an image of " + bytes.length() + " bytes", x.on(), want);
        due(38, "the tape goes", x.end(1), false);
    }

    private static void images() {
        SlipDrawer x = zoo();
        due(36, "no notes", x.image(), 2);
        due(37, "no notes", x.octet(0), 0);
        due(37, "7 * 3", x.octet(1), 21);
        hear(x, "a b");
        x.note(2);
        due(37, "the latest image", x.octet(0), 0);
        due(36, "a note", x.image(), 7);
        int[] want = {1, 2, 3, 97, 32, 98, 0, NONE};
        int check = 7;
        for (int i = 0; i < 6; i++) {
            check = (3 * check + want[i]) % 251;
        }
        want[6] = check;
        for (int i = 0; i < want.length; i++) {
            due(37, "byte " + i, x.octet(i), want[i]);
        }
        due(37, "byte -1", x.octet(-1), NONE);
        x.undo();
        due(37, "the latest image stays", x.octet(0), 1);
        image(x, "\1\2\3a b", true);
        due(38, "its notes", x.has(3), 1);
        due(38, "its row", x.recall(0), 2);
        due(38, "its said", said(x), "a b");
        image(x, "\2\0\1x\1\2y ", true);
        due(38, "in place of what was there", x.has(3), 2);
        due(38, "its row", x.recall(1), 1);
        due(38, "its said", said(x), "y ");
        image(x, "\1\3\1x", false);
        due(38, "no such row: all stays", x.has(3), 2);
        image(x, "\1\2\0", false);
        image(x, "\1\2\1X", false);
        image(x, "\1\2\1\n", false);
        image(x, "\1\2\1", false);
        image(x, "\1\2", false);
        image(x, "\1", false);
        image(x, "", false);
        image(x, "\1\2\1xy", false);
        image(x, "\2\2\1x", false);
        image(x, "\1\u0082\1x", false);
        image(x, "\1\0\u0065" + "x".repeat(101), false);
        image(x, "\1\0\u0064" + "x".repeat(100), true);
        due(38, "100 bytes", x.has(3), 1);
        image(x, "\24" + "\0\1x".repeat(20), true);
        due(38, "20 notes", x.has(3), 20);
        image(x, "\25" + "\0\1x".repeat(21), false);
        tape(x, "\0\26");
        due(38, "a wrong last byte", x.on(), false);
        tape(x, "\0\25 ");
        due(38, "a byte more", x.on(), false);
        tape(x, "\0");
        due(38, "a byte less", x.on(), false);
        tape(x, "");
        due(38, "no bytes", x.on(), false);
        due(38, "all stays", x.has(3), 20);
        tape(x, "\0\25");
        due(38, "an image of no notes", x.on(), true);
        due(38, "no notes", x.has(3), 0);
        hear(x, "z".repeat(100));
        for (int i = 0; i < 20; i++) {
            x.note(0);
        }
        due(36, "the greatest image", x.image(), 2042);
        due(37, "its last byte is there", x.octet(2041) >= 0, true);
        due(37, "none behind it", x.octet(2042), NONE);
    }
}
