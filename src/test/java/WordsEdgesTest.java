/** Boundaries of promises 1 to 6: a new object, the tape, words, rows, how many there are. */
public final class WordsEdgesTest {
    private static final int NONE = Desk.NONE;

    public static void main(String[] args) {
        Desk.runAll(WordsEdgesTest.class);
    }

    /** 30 words, of which no one is near or akin to another. */
    private static SlipDrawer thirtyWords() {
        SlipDrawer x = new SlipDrawer();
        for (int i = 0; i < 30; i++) {
            Desk.due("word " + i, Desk.word(x, nth(i), i % 5, i / 5, 1 + i), i);
        }
        return x;
    }

    private static String nth(int i) {
        char c = (char) ('a' + i % 26);
        return "" + c + c + (i < 26 ? "" : c);
    }

    private static SlipDrawer twelveRows() {
        SlipDrawer x = Desk.full();
        for (int i = 3; i < 12; i++) {
            Desk.row(x, i % 5);
        }
        return x;
    }

    // ---- promise 1

    static void promise01_noneIsMinusOne() {
        Desk.due("NONE", SlipDrawer.NONE, -1);
    }

    static void promise01_aNewObjectHasNothing() {
        SlipDrawer x = new SlipDrawer();
        for (int what = 0; what <= 5; what++) {
            Desk.due("has " + what, x.has(what), 0);
        }
    }

    static void promise01_aNewObjectHasNoWord() {
        Desk.due("row", Desk.row(new SlipDrawer(), 0), NONE);
    }

    static void promise01_aNewObjectHasNoRow() {
        SlipDrawer x = new SlipDrawer();
        Desk.due("takings", x.takings(0), NONE);
        Desk.due("taking", x.taking(0, 0, 0), NONE);
        Desk.due("tell", x.tell(0, 0), NONE);
        Desk.due("ways", x.ways(0, NONE), NONE);
        Desk.due("reals", x.reals(0, 0, false), NONE);
        Desk.due("note", x.note(0), NONE);
        Desk.due("meant by any weight", x.meant(NONE), 0);
    }

    static void promise01_aNewObjectHasNoMaking() {
        SlipDrawer x = new SlipDrawer();
        for (int k = 0; k < 4; k++) {
            Desk.due("meant", x.meant(k), NONE);
            Desk.due("never", x.never(k, 0), NONE);
            Desk.due("thrown", x.thrown(k), NONE);
            Desk.due("better", x.better(k, k), NONE);
            Desk.due("weight", x.weight(0, NONE, k), NONE);
            Desk.due("apart", x.apart(0, k, k), NONE);
        }
        Desk.due("next", x.next(), NONE);
    }

    static void promise01_aNewObjectHasNoEar() {
        SlipDrawer x = Desk.rowOf("cat");
        Desk.due("heard", x.taking(0, 0, 4), 100);
        Desk.due("has", x.has(5), 0);
    }

    static void promise01_aNewObjectHasNoNotes() {
        SlipDrawer x = new SlipDrawer();
        Desk.due("undo", x.undo(), NONE);
        Desk.due("recall", x.recall(0), NONE);
        Desk.due("kinds", x.kinds(0), 0);
        Desk.due("far", x.far(true), NONE);
        Desk.due("frame", x.frame(true), 0);
    }

    static void promise01_inANewObjectNothingIsSaid() {
        SlipDrawer x = new SlipDrawer();
        Desk.due("letter", x.letter(0), NONE);
        Desk.due("has", x.has(4), 0);
    }

    static void promise01_theTapeOfANewObjectIsEmpty() {
        SlipDrawer x = new SlipDrawer();
        Desk.due("end 1", x.end(1), false);
        Desk.due("end 0", x.end(0), true);
        Desk.due("feed", x.feed(0, 0, 0, 0, 0), 20);
    }

    static void promise01_oneObjectChangesNoOther() {
        SlipDrawer first = new SlipDrawer();
        SlipDrawer x = new SlipDrawer();
        Desk.word(first, "cat");
        Desk.row(first, 0);
        Desk.making(first, 0, "none 1 when all;");
        Desk.hear(first, "cat");
        first.note(0);
        first.feed(0, 0, 0, 0, 0);
        for (int what = 0; what <= 5; what++) {
            Desk.due("has " + what, x.has(what), 0);
        }
        Desk.due("end", x.end(1), false);
    }

    static void promise01_the512thCallIsAnsweredAsTheFirst() {
        SlipDrawer x = new SlipDrawer();
        for (int i = 1; i < 509; i++) {
            x.has(i);
        }
        x.feed('a' << 24, 0, 0, 0, 0);
        x.end(1);
        Desk.due("call 511", x.word(0, 0, 1), 0);
        Desk.due("call 512", x.has(0), 1);
    }

    // ---- promise 2

    static void promise02_2100BytesAreTakenAndNoMore() {
        SlipDrawer x = new SlipDrawer();
        for (int i = 1; i <= 105; i++) {
            Desk.due("feed " + i, x.feed(i, i, i, i, i), 20 * i);
        }
        Desk.due("feed 106", x.feed(0, 0, 0, 0, 0), NONE);
        Desk.due("the tape behind it", x.end(2101), false);
        Desk.due("the tape ahead of it", x.end(2100), true);
    }

    static void promise02_aFeedUpTo2100IsTakenOneTo2101IsNot() {
        SlipDrawer x = new SlipDrawer();
        for (int i = 0; i < 105; i++) {
            x.feed(0, 0, 0, 0, 0);
        }
        x.end(2081);
        Desk.due("behind 2081", x.feed(0, 0, 0, 0, 0), NONE);
        Desk.due("as long as it was", x.end(2082), false);
        x.end(2080);
        Desk.due("behind 2080", x.feed(0, 0, 0, 0, 0), 2100);
    }

    static void promise02_aRefusedFeedDoesNothing() {
        Desk.stays("a feed too many", () -> {
            SlipDrawer x = Desk.full();
            for (int i = 0; i < 104; i++) {
                x.feed(0x61616161, 0x61616161, 0x61616161, 0x61616161, 0x61616161);
            }
            return x;
        }, x -> Desk.due("feed", x.feed(0x62626262, 0x62626262, 0x62626262, 0x62626262, 0x62626262), NONE));
    }

    static void promise02_theHighestByteOfEachNumberIsFirst() {
        SlipDrawer x = new SlipDrawer();
        Desk.due("feed", x.feed(0x61626364, 0x65666768, 0x696a6b6c, 0x6d6e6f70, 0x71727374), 20);
        x.hear();
        Desk.due("what came", Desk.said(x), "abcdefghijklmnopqrst");
    }

    static void promise02_bytesOf128AndMoreAreBytesToo() {
        SlipDrawer x = new SlipDrawer();
        // the place of the fault tells where the byte 200 stands
        x.feed(0x20202020, 0x20c82020, 0, 0, 0);
        x.end(8);
        Desk.due("making", x.making(0), NONE);
        Desk.due("place", x.fault(1), 5);
        x.feed(-1, -1, -1, -1, -1);
        Desk.due("the tape is full of 255", x.hear(), false);
    }

    static void promise02_theLeastAndTheGreatestNumbersAreFed() {
        SlipDrawer x = new SlipDrawer();
        Desk.due("feed", x.feed(Desk.LEAST, Desk.MOST, Desk.LEAST, Desk.MOST, 0), 20);
        Desk.due("again", x.feed(Desk.MOST, 0, -1, 1, Desk.LEAST), 40);
    }

    static void promise02_bytesComeBehindThoseThatAreThere() {
        SlipDrawer x = new SlipDrawer();
        x.feed(0x61626364, 0x7a7a7a7a, 0, 0, 0);
        x.end(3);
        Desk.due("feed", x.feed(0x78797a77, 0, 0, 0, 0), 23);
        x.end(7);
        x.hear();
        Desk.due("what came", Desk.said(x), "abcxyzw");
    }

    // ---- promise 3

    static void promise03_allBytesMayStayOneMoreMayNot() {
        SlipDrawer x = new SlipDrawer();
        x.feed(0, 0, 0, 0, 0);
        Desk.due("21 of 20", x.end(21), false);
        Desk.due("20 of 20", x.end(20), true);
        Desk.due("feed", x.feed(0, 0, 0, 0, 0), 40);
    }

    static void promise03_noBytesMayStayFewerMayNot() {
        SlipDrawer x = new SlipDrawer();
        x.feed(0, 0, 0, 0, 0);
        Desk.due("-1", x.end(-1), false);
        Desk.due("still 20", x.end(20), true);
        Desk.due("0", x.end(0), true);
        Desk.due("feed", x.feed(0, 0, 0, 0, 0), 20);
    }

    static void promise03_anEmptyTapeHas0Bytes() {
        SlipDrawer x = new SlipDrawer();
        Desk.due("0", x.end(0), true);
        Desk.due("1", x.end(1), false);
        Desk.due("-1", x.end(-1), false);
    }

    static void promise03_aFullTapeHas2100Bytes() {
        SlipDrawer x = new SlipDrawer();
        for (int i = 0; i < 105; i++) {
            x.feed(0, 0, 0, 0, 0);
        }
        Desk.due("2101", x.end(2101), false);
        Desk.due("2100", x.end(2100), true);
        Desk.due("2099", x.end(2099), true);
        Desk.due("2100 again", x.end(2100), false);
    }

    static void promise03_theLeastAndTheGreatestNumberAreRefused() {
        SlipDrawer x = Desk.full();
        Desk.due("the least", x.end(Desk.LEAST), false);
        Desk.due("the greatest", x.end(Desk.MOST), false);
    }

    static void promise03_aRefusedEndDoesNothing() {
        Desk.stays("above", x -> Desk.due("end 5 of 4", x.end(5), false));
        Desk.stays("below", x -> Desk.due("end -1", x.end(-1), false));
    }

    static void promise03_bytesThatWentDoNotComeAgain() {
        SlipDrawer x = new SlipDrawer();
        x.feed(0x61626364, 0, 0, 0, 0);
        x.end(2);
        Desk.due("end 3", x.end(3), false);
        x.hear();
        Desk.due("the first ones stay", Desk.said(x), "ab");
    }

    // ---- promise 4

    static void promise04_thirtyWordsAreTakenAndNoMore() {
        SlipDrawer x = thirtyWords();
        Desk.due("word 30", Desk.word(x, "new", 0, 0, 1), NONE);
        Desk.due("has", x.has(0), 30);
        Desk.due("the last is there", Desk.row(x, 29), 0);
        Desk.due("none behind it", Desk.row(x, 30), NONE);
    }

    static void promise04_theThirtyFirstWordChangesNothing() {
        Desk.emptiesTape("word 30", () -> {
            SlipDrawer x = thirtyWords();
            Desk.row(x, 0, 29);
            Desk.tape(x, "tape");
            return x;
        }, x -> Desk.due("word", Desk.word(x, "bb", 0, 0, 1), NONE));
    }

    static void promise04_aWordHasALetter() {
        SlipDrawer x = new SlipDrawer();
        Desk.due("no letter", Desk.word(x, ""), NONE);
        Desk.due("one letter", Desk.word(x, "b"), 0);
    }

    static void promise04_aWordHasEightLettersAtMost() {
        SlipDrawer x = new SlipDrawer();
        Desk.due("nine", Desk.word(x, "abcdefghi"), NONE);
        Desk.due("eight", Desk.word(x, "abcdefgh"), 0);
        Desk.due("twenty", Desk.word(x, "abcdefghijklmnopqrst"), NONE);
        Desk.row(x, 0);
        Desk.due("all eight are said", x.tell(0, 0), 8);
    }

    static void promise04_aFullTapeIsNoWord() {
        SlipDrawer x = new SlipDrawer();
        Desk.due("2100 letters", Desk.word(x, "a".repeat(2100)), NONE);
        Desk.due("the tape goes", x.end(1), false);
    }

    static void promise04_lettersAreAToZ() {
        SlipDrawer x = new SlipDrawer();
        Desk.due("ahead of a", Desk.word(x, "`"), NONE);
        Desk.due("a", Desk.word(x, "a"), 0);
        Desk.due("z", Desk.word(x, "z"), 1);
        Desk.due("behind z", Desk.word(x, "{"), NONE);
    }

    static void promise04_ofAllBytesNoOtherIsALetter() {
        for (int c = 0; c < 256; c++) {
            boolean isLetter = c >= 'a' && c <= 'z';
            Desk.due("byte " + c, Desk.word(new SlipDrawer(), "b" + (char) c), isLetter ? 0 : NONE);
        }
    }

    static void promise04_eachPlaceOfAWordNeedsALetter() {
        SlipDrawer x = new SlipDrawer();
        Desk.due("first", Desk.word(x, " bcdefgh"), NONE);
        Desk.due("middle", Desk.word(x, "abcd fgh"), NONE);
        Desk.due("last", Desk.word(x, "abcdefg "), NONE);
        Desk.due("none", Desk.word(x, "abcdefgh"), 0);
    }

    static void promise04_aSortIs0To4() {
        SlipDrawer x = new SlipDrawer();
        Desk.due("-1", Desk.word(x, "a", -1, 0, 1), NONE);
        Desk.due("5", Desk.word(x, "a", 5, 0, 1), NONE);
        Desk.due("the least", Desk.word(x, "a", Desk.LEAST, 0, 1), NONE);
        Desk.due("the greatest", Desk.word(x, "a", Desk.MOST, 0, 1), NONE);
        Desk.due("0", Desk.word(x, "a", 0, 0, 1), 0);
        Desk.due("4", Desk.word(x, "b", 4, 0, 1), 1);
    }

    static void promise04_aSenseIs0To9() {
        SlipDrawer x = new SlipDrawer();
        Desk.due("-1", Desk.word(x, "a", 0, -1, 1), NONE);
        Desk.due("10", Desk.word(x, "a", 0, 10, 1), NONE);
        Desk.due("the least", Desk.word(x, "a", 0, Desk.LEAST, 1), NONE);
        Desk.due("the greatest", Desk.word(x, "a", 0, Desk.MOST, 1), NONE);
        Desk.due("0", Desk.word(x, "a", 0, 0, 1), 0);
        Desk.due("9", Desk.word(x, "b", 0, 9, 1), 1);
    }

    static void promise04_oftenIs1To99() {
        SlipDrawer x = new SlipDrawer();
        Desk.due("0", Desk.word(x, "a", 0, 0, 0), NONE);
        Desk.due("100", Desk.word(x, "a", 0, 0, 100), NONE);
        Desk.due("the least", Desk.word(x, "a", 0, 0, Desk.LEAST), NONE);
        Desk.due("the greatest", Desk.word(x, "a", 0, 0, Desk.MOST), NONE);
        Desk.due("1", Desk.word(x, "a", 0, 0, 1), 0);
        Desk.due("99", Desk.word(x, "b", 0, 0, 99), 1);
    }

    static void promise04_aWordThatIsThereIsRefused() {
        SlipDrawer x = new SlipDrawer();
        Desk.word(x, "cat", 0, 0, 1);
        Desk.due("all like it", Desk.word(x, "cat", 0, 0, 1), NONE);
        Desk.due("of another sort, sense, often", Desk.word(x, "cat", 1, 2, 3), NONE);
        Desk.due("a letter less", Desk.word(x, "ca", 0, 0, 1), 1);
        Desk.due("a letter more", Desk.word(x, "cats", 0, 0, 1), 2);
        Desk.due("another last letter", Desk.word(x, "cas", 0, 0, 1), 3);
        Desk.due("the last again", Desk.word(x, "cas", 0, 0, 1), NONE);
    }

    static void promise04_aWordOfEightLettersThatIsThereIsRefused() {
        SlipDrawer x = new SlipDrawer();
        Desk.word(x, "strength");
        Desk.due("it", Desk.word(x, "strength"), NONE);
        Desk.due("another last letter", Desk.word(x, "strengts"), 1);
        Desk.due("another first letter", Desk.word(x, "ttrength"), 2);
    }

    static void promise04_aRefusedWordEmptiesTheTapeAndChangesNothing() {
        Desk.emptiesTape("a wrong sort", x -> Desk.due("word", Desk.word(x, "new", 5, 0, 1), NONE));
        Desk.emptiesTape("a wrong sense", x -> Desk.due("word", Desk.word(x, "new", 0, 10, 1), NONE));
        Desk.emptiesTape("a wrong often", x -> Desk.due("word", Desk.word(x, "new", 0, 0, 0), NONE));
        Desk.emptiesTape("a wrong letter", x -> Desk.due("word", Desk.word(x, "ne1", 0, 0, 1), NONE));
        Desk.emptiesTape("one that is there", x -> Desk.due("word", Desk.word(x, "cat", 3, 3, 3), NONE));
        Desk.emptiesTape("no letters", x -> Desk.due("word", Desk.word(x, "", 3, 3, 3), NONE));
        Desk.emptiesTape("nine letters", x -> Desk.due("word", Desk.word(x, "ninewords", 3, 3, 3), NONE));
    }

    static void promise04_aRefusedWordLeavesItsNumberToTheNext() {
        SlipDrawer x = new SlipDrawer();
        Desk.due("refused", Desk.word(x, "cat", 5, 0, 1), NONE);
        Desk.due("taken", Desk.word(x, "cat", 4, 0, 1), 0);
        Desk.due("refused again", Desk.word(x, "dog", 0, 0, 100), NONE);
        Desk.due("taken then", Desk.word(x, "dog", 0, 0, 99), 1);
    }

    static void promise04_aRefusedWordLeavesNoLetters() {
        SlipDrawer x = new SlipDrawer();
        Desk.word(x, "scat", 0, 1, 1);
        Desk.due("refused", Desk.word(x, "scats1"), NONE);
        Desk.due("taken", Desk.word(x, "ca", 0, 2, 1), 1);
        Desk.due("refused, for it is there", Desk.word(x, "scat"), NONE);
        Desk.due("taken, the beginning of it", Desk.word(x, "sca", 0, 3, 1), 2);
        Desk.row(x, 1);
        Desk.due("takings of ca", Desk.takings(x, 0, NONE), "0 -1 -1 'ca'; 6 0 2 'sca'; 8 0 -1 'a';");
    }

    static void promise04_aTakenWordEmptiesTheTape() {
        SlipDrawer x = new SlipDrawer();
        Desk.word(x, "cat");
        Desk.due("end", x.end(1), false);
    }

    static void promise04_aTakenWordLeavesTheSaidAndTheListAlone() {
        SlipDrawer x = Desk.full();
        Desk.due("word", Desk.word(x, "new", 3, 0, 1), 5);
        Desk.due("said", Desk.said(x), "hat");
        Desk.due("notes", x.has(3), 2);
        Desk.due("fault", x.fault(1), 7);
    }

    // ---- promise 5

    static void promise05_twelveRowsAreTakenAndNoMore() {
        SlipDrawer x = Desk.full();
        for (int i = 3; i < 12; i++) {
            Desk.due("row " + i, Desk.row(x, 0), i);
        }
        Desk.due("row 12", Desk.row(x, 0), NONE);
        Desk.due("has", x.has(1), 12);
        Desk.due("the last is there", x.tell(11, 0), 3);
        Desk.due("none behind it", x.tell(12, 0), NONE);
    }

    static void promise05_theThirteenthRowChangesNothing() {
        Desk.stays("row 12", WordsEdgesTest::twelveRows, x -> Desk.due("row", Desk.row(x, 0, 1), NONE));
    }

    static void promise05_aRowHasAWord() {
        SlipDrawer x = Desk.full();
        Desk.due("no word", x.row(NONE, NONE, NONE, NONE, NONE, NONE), NONE);
        Desk.due("one word", x.row(0, NONE, NONE, NONE, NONE, NONE), 3);
        Desk.due("takings of one word say it", x.tell(3, 0), 3);
    }

    static void promise05_aRowHasSixWordsAtMost() {
        SlipDrawer x = Desk.full();
        Desk.due("five", x.row(0, 1, 2, 3, 4, NONE), 3);
        Desk.due("six", x.row(0, 1, 2, 3, 4, 0), 4);
        x.tell(4, 0);
        Desk.due("all six are said", Desk.said(x), "cat hat dog sh oh cat");
    }

    static void promise05_behindTheFirstNoneAllAreNone() {
        SlipDrawer x = Desk.full();
        Desk.due("first", x.row(NONE, 0, 0, 0, 0, 0), NONE);
        Desk.due("second", x.row(0, NONE, 0, 0, 0, 0), NONE);
        Desk.due("third", x.row(0, 0, NONE, 0, 0, 0), NONE);
        Desk.due("fourth", x.row(0, 0, 0, NONE, 0, 0), NONE);
        Desk.due("fifth", x.row(0, 0, 0, 0, NONE, 0), NONE);
        Desk.due("sixth", x.row(0, 0, 0, 0, 0, NONE), 3);
    }

    static void promise05_behindTheFirstNoneNoOtherNumberStands() {
        SlipDrawer x = Desk.full();
        Desk.due("-2", x.row(0, NONE, -2, NONE, NONE, NONE), NONE);
        Desk.due("a word that is not there", x.row(0, NONE, NONE, NONE, NONE, 5), NONE);
        Desk.due("a word", x.row(0, NONE, NONE, NONE, NONE, 1), NONE);
        Desk.due("NONE", x.row(0, NONE, NONE, NONE, NONE, NONE), 3);
    }

    static void promise05_theWordsOfARowAreThere() {
        SlipDrawer x = Desk.full();
        Desk.due("word 5 of 5", Desk.row(x, 5), NONE);
        Desk.due("word -2", Desk.row(x, -2), NONE);
        Desk.due("the least", Desk.row(x, Desk.LEAST), NONE);
        Desk.due("the greatest", Desk.row(x, Desk.MOST), NONE);
        Desk.due("word 4 of 5", Desk.row(x, 4), 3);
        Desk.due("word 0", Desk.row(x, 0), 4);
    }

    static void promise05_eachWordOfARowIsThere() {
        SlipDrawer x = Desk.full();
        for (int place = 0; place < 6; place++) {
            int[] given = {0, 0, 0, 0, 0, 0};
            given[place] = 5;
            Desk.due("5 at " + place, Desk.row(x, given), NONE);
            given[place] = -2;
            Desk.due("-2 at " + place, Desk.row(x, given), NONE);
            given[place] = 4;
            Desk.due("4 at " + place, Desk.row(x, given), 3 + place);
        }
    }

    static void promise05_wordsOfARowMayBeAlike() {
        SlipDrawer x = Desk.full();
        Desk.due("all alike", Desk.row(x, 2, 2, 2, 2, 2, 2), 3);
        x.tell(3, 0);
        Desk.due("said", Desk.said(x), "dog dog dog dog dog dog");
    }

    static void promise05_rowsMayBeAlike() {
        SlipDrawer x = Desk.full();
        Desk.due("like row 0", Desk.row(x, 0, 1), 3);
        Desk.due("again", Desk.row(x, 0, 1), 4);
    }

    static void promise05_aRefusedRowChangesNothing() {
        Desk.stays("no words", x -> Desk.due("row", x.row(NONE, NONE, NONE, NONE, NONE, NONE), NONE));
        Desk.stays("a word that is not there", x -> Desk.due("row", Desk.row(x, 0, 5), NONE));
        Desk.stays("a NONE between", x -> Desk.due("row", x.row(0, NONE, 1, NONE, NONE, NONE), NONE));
    }

    static void promise05_aRefusedRowLeavesItsNumberToTheNext() {
        SlipDrawer x = Desk.full();
        Desk.due("refused", Desk.row(x, 0, 5), NONE);
        Desk.due("taken", Desk.row(x, 0, 4), 3);
    }

    static void promise05_theTapeStaysWithARow() {
        SlipDrawer x = Desk.full();
        Desk.row(x, 0);
        Desk.due("end at 4", x.end(4), true);
        x.hear();
        Desk.due("the tape", Desk.said(x), "tape");
    }

    // ---- promise 6

    static void promise06_whatIs0To5() {
        SlipDrawer x = Desk.full();
        Desk.due("-1", x.has(-1), NONE);
        Desk.due("0", x.has(0), 5);
        Desk.due("1", x.has(1), 3);
        Desk.due("2", x.has(2), 3);
        Desk.due("3", x.has(3), 2);
        Desk.due("4", x.has(4), 3);
        Desk.due("5", x.has(5), 1);
        Desk.due("6", x.has(6), NONE);
        Desk.due("the least", x.has(Desk.LEAST), NONE);
        Desk.due("the greatest", x.has(Desk.MOST), NONE);
    }

    static void promise06_thirtyWordsAreCounted() {
        Desk.due("words", thirtyWords().has(0), 30);
    }

    static void promise06_twelveRowsAreCounted() {
        Desk.due("rows", twelveRows().has(1), 12);
    }

    static void promise06_fourMakingsAreCountedEachOnce() {
        SlipDrawer x = new SlipDrawer();
        for (int k = 3; k >= 0; k--) {
            Desk.making(x, k, "");
            Desk.due("makings", x.has(2), 4 - k);
            Desk.making(x, k, "none 1 when all;");
            Desk.due("makings, one told twice", x.has(2), 4 - k);
        }
        Desk.making(x, 4, "");
        Desk.due("makings, behind a refused one", x.has(2), 4);
    }

    static void promise06_anEarIsNoMaking() {
        SlipDrawer x = new SlipDrawer();
        Desk.ear(x, "");
        Desk.due("makings", x.has(2), 0);
        Desk.due("ear", x.has(5), 1);
    }

    static void promise06_aSecondEarIsCountedOnce() {
        SlipDrawer x = new SlipDrawer();
        Desk.ear(x, "");
        Desk.ear(x, "none 1 when all;");
        Desk.due("ear", x.has(5), 1);
    }

    static void promise06_twentyNotesAreCounted() {
        SlipDrawer x = Desk.full();
        for (int i = 2; i < 22; i++) {
            x.note(0);
        }
        Desk.due("notes", x.has(3), 20);
    }

    static void promise06_aHundredLettersAndBlanksAreCounted() {
        SlipDrawer x = new SlipDrawer();
        Desk.hear(x, " ".repeat(50) + "z".repeat(50));
        Desk.due("letters and blanks", x.has(4), 100);
    }

    static void promise06_askingChangesNothing() {
        Desk.stays("has", x -> {
            for (int what = -1; what <= 6; what++) {
                x.has(what);
            }
        });
    }
}
