/** Boundaries of promises 10 and 11: which takings a row has, their order, what is told of each. */
public final class TakingsEdgesTest {
    private static final int NONE = Desk.NONE;
    private static final int EARLY = 1;
    private static final int LATE = 2;
    private static final int SWAP = 3;
    private static final int TRADE = 4;
    private static final int BLEND = 5;
    private static final int NEAR = 6;
    private static final int SENSE = 7;
    private static final int LOST = 8;

    public static void main(String[] args) {
        Desk.runAll(TakingsEdgesTest.class);
    }

    /** The takings of a kind of a row of words, all of sort 0 and of unlike senses. */
    private static void takings(int kind, String words, String want) {
        SlipDrawer x = new SlipDrawer();
        String[] letters = words.split(" ");
        int[] numbers = new int[letters.length];
        for (int i = 0; i < letters.length; i++) {
            numbers[i] = Desk.word(x, letters[i], 0, i, 1);
        }
        Desk.row(x, numbers);
        Desk.due("kind " + kind + " of " + words, Desk.takings(x, 0, kind), want);
    }

    /** The takings of a kind of a row of the first word, with another of a sort and a sense. */
    private static void takings(int kind, String word, String other, int sort, int sense, String want) {
        SlipDrawer x = new SlipDrawer();
        Desk.word(x, word, 0, 0, 1);
        Desk.word(x, other, sort, sense, 1);
        Desk.row(x, 0);
        Desk.due("kind " + kind + " of " + word + " with " + other, Desk.takings(x, 0, kind), want);
    }

    private static void near(String word, String other, boolean want) {
        takings(NEAR, word, other, 0, 5, want ? "6 0 1 '" + other + "';" : "");
        takings(NEAR, other, word, 0, 5, want ? "6 0 1 '" + word + "';" : "");
    }

    private static int real(SlipDrawer x, int kind, int place, int other) {
        return x.taking(0, Desk.find(x, 0, kind, place, other), 3);
    }

    private static int far(SlipDrawer x, int kind, int place, int other) {
        return x.taking(0, Desk.find(x, 0, kind, place, other), 5);
    }

    // ---- promise 10

    static void promise10_theRowIsThere() {
        SlipDrawer x = Desk.full();
        Desk.due("-1", x.takings(-1), NONE);
        Desk.due("0", x.takings(0) > 0, true);
        Desk.due("2", x.takings(2) > 0, true);
        Desk.due("3 of 3", x.takings(3), NONE);
        Desk.due("the least", x.takings(Desk.LEAST), NONE);
        Desk.due("the greatest", x.takings(Desk.MOST), NONE);
    }

    static void promise10_theTwelfthRowIsTheLast() {
        SlipDrawer x = Desk.rowOf("cat");
        for (int i = 1; i < 12; i++) {
            Desk.row(x, 0);
        }
        Desk.due("11", x.takings(11), 2);
        Desk.due("12", x.takings(12), NONE);
    }

    static void promise10_aRowOfOneWordMayHaveNoneAlone() {
        Desk.due("without a vowel", Desk.rowOf("sh").takings(0), 1);
        Desk.due("without an onset", Desk.rowOf("oh").takings(0), 1);
        Desk.due("with both", Desk.rowOf("so").takings(0), 2);
    }

    static void promise10_wordsThatComeLaterCountToo() {
        SlipDrawer x = Desk.rowOf("cat");
        Desk.due("none, lost", x.takings(0), 2);
        Desk.word(x, "cot", 0, 1, 1);
        Desk.due("and near", x.takings(0), 3);
        Desk.word(x, "cut", 0, 0, 1);
        Desk.due("and blend, near, sense", x.takings(0), 6);
        Desk.word(x, "cyt", 1, 0, 1);
        Desk.due("and nothing of another sort", x.takings(0), 6);
    }

    static void promise10_theFullestRowHasAllItsTakings() {
        SlipDrawer x = new SlipDrawer();
        for (int i = 0; i < 30; i++) {
            String letters = "" + "bcdfgh".charAt(i % 6) + "aeiou".charAt(i / 6);
            Desk.word(x, letters, 0, 0, 1);
        }
        Desk.row(x, 0, 1, 2, 3, 4, 5);
        // by twos 15: early, late, swap, trade; each word has 24 with another rest, 9 near ones (5
        // with its rest, 4 with its onset), 29 of its sense, and an onset
        Desk.due("takings", x.takings(0), 1 + 4 * 15 + 6 * (24 + 9 + 29) + 6);
        Desk.due("the last", x.taking(0, 438, 0), LOST);
        Desk.due("none behind it", x.taking(0, 439, 0), NONE);
    }

    static void promise10_askingChangesNothing() {
        Desk.stays("takings", x -> {
            for (int row = -1; row <= 3; row++) {
                x.takings(row);
            }
        });
    }

    // ---- promise 11: which is asked for

    static void promise11_theRowIsThere() {
        SlipDrawer x = Desk.full();
        Desk.due("-1", x.taking(-1, 0, 0), NONE);
        Desk.due("2", x.taking(2, 0, 0), 0);
        Desk.due("3 of 3", x.taking(3, 0, 0), NONE);
        Desk.due("the least", x.taking(Desk.LEAST, 0, 0), NONE);
        Desk.due("the greatest", x.taking(Desk.MOST, 0, 0), NONE);
    }

    static void promise11_theTakingIsThere() {
        SlipDrawer x = Desk.full();
        int many = x.takings(0);
        Desk.due("-1", x.taking(0, -1, 0), NONE);
        Desk.due("0", x.taking(0, 0, 0), 0);
        Desk.due("the last", x.taking(0, many - 1, 0), LOST);
        Desk.due("one more", x.taking(0, many, 0), NONE);
        Desk.due("the least", x.taking(0, Desk.LEAST, 0), NONE);
        Desk.due("the greatest", x.taking(0, Desk.MOST, 0), NONE);
    }

    static void promise11_whatIs0To5() {
        SlipDrawer x = Desk.rowOf("cat", "dog");
        int early = Desk.find(x, 0, EARLY, 0, 1);
        Desk.due("-1", x.taking(0, early, -1), NONE);
        Desk.due("0", x.taking(0, early, 0), 1);
        Desk.due("1", x.taking(0, early, 1), 0);
        Desk.due("2", x.taking(0, early, 2), 1);
        Desk.due("3", x.taking(0, early, 3), 0);
        Desk.due("4", x.taking(0, early, 4), 100);
        Desk.due("5", x.taking(0, early, 5), 1);
        Desk.due("6", x.taking(0, early, 6), NONE);
        Desk.due("the least", x.taking(0, early, Desk.LEAST), NONE);
        Desk.due("the greatest", x.taking(0, early, Desk.MOST), NONE);
    }

    static void promise11_askingChangesNothing() {
        Desk.stays("taking", x -> {
            for (int what = -1; what <= 6; what++) {
                x.taking(0, 1, what);
                x.taking(0, 99, what);
                x.taking(3, 0, what);
            }
        });
    }

    // ---- promise 11: onsets and rests

    static void promise11_theVowelsAreFive() {
        for (char c = 'a'; c <= 'z'; c++) {
            boolean isVowel = "aeiou".indexOf(c) >= 0;
            takings(LOST, "b" + c, isVowel ? "8 0 -1 '" + c + "';" : "");
        }
    }

    static void promise11_theOnsetEndsAheadOfTheFirstVowel() {
        takings(LOST, "strengtu", "8 0 -1 'engtu';");
        takings(LOST, "baebae", "8 0 -1 'aebae';");
        takings(LOST, "bcdfghja", "8 0 -1 'a';");
    }

    static void promise11_withoutAVowelAllLettersAreTheOnset() {
        takings(EARLY, "oh rhythm", "1 0 1 'rhythmoh rhythm';");
        takings(LATE, "rhythm oh", "2 1 0 'rhythm rhythmoh';");
        takings(EARLY, "rhythm bo", "1 0 1 'b bo';");
        takings(LOST, "rhythm", "");
        takings(LOST, "b", "");
    }

    static void promise11_aWordThatBeginsWithAVowelHasAnEmptyOnset() {
        takings(EARLY, "cat ant", "1 0 1 'at ant';");
        takings(LATE, "ant cat", "2 1 0 'ant at';");
        takings(LOST, "ant", "");
        takings(LOST, "a", "");
    }

    // ---- promise 11: none

    static void promise11_noneIsOneAlone() {
        SlipDrawer x = Desk.full();
        for (int row = 0; row < 3; row++) {
            Desk.due("none of row " + row, x.reals(row, 0, false), 1);
            Desk.due("its kind", x.taking(row, 0, 0), 0);
            Desk.due("its place", x.taking(row, 0, 1), NONE);
            Desk.due("its other", x.taking(row, 0, 2), NONE);
            Desk.due("it is real", x.taking(row, 0, 3), 1);
            Desk.due("its far", x.taking(row, 0, 5), 0);
        }
    }

    static void promise11_ofNoneIsSaidWhatIsMeant() {
        SlipDrawer x = Desk.full();
        x.tell(1, 0);
        Desk.due("said", Desk.said(x), "cat dog oh");
    }

    // ---- promise 11: early, late, swap, trade

    static void promise11_earlyTakesFromBehindItAlone() {
        takings(EARLY, "cat dog pen", "1 0 1 'dat dog pen'; 1 0 2 'pat dog pen'; 1 1 2 'cat pog pen';");
    }

    static void promise11_lateTakesFromAheadOfItAlone() {
        takings(LATE, "cat dog pen", "2 1 0 'cat cog pen'; 2 2 0 'cat dog cen'; 2 2 1 'cat dog den';");
    }

    static void promise11_aSwapHasThePlaceAheadOfTheOther() {
        takings(SWAP, "cat dog pen", "3 0 1 'dat cog pen'; 3 0 2 'pat dog cen'; 3 1 2 'cat pog den';");
    }

    static void promise11_aTradeHasThePlaceAheadOfTheOther() {
        takings(TRADE, "cat dog pen", "4 0 1 'dog cat pen'; 4 0 2 'pen dog cat'; 4 1 2 'cat pen dog';");
    }

    static void promise11_oneWordTakesFromNoOtherPlace() {
        for (int kind = EARLY; kind <= TRADE; kind++) {
            takings(kind, "cat", "");
        }
    }

    /** What a taking of six words with unlike onsets says. */
    private static void ofSix(int kind, int place, int other, String want) {
        SlipDrawer x = Desk.rowOf("ba", "ca", "da", "fa", "ga", "ha");
        Desk.due("kind " + kind, x.reals(0, kind, false), 15);
        x.tell(0, Desk.find(x, 0, kind, place, other));
        Desk.due("kind " + kind + " at " + place + " with " + other, Desk.said(x), want);
    }

    static void promise11_theFirstAndTheLastOfSixAreTaken() {
        ofSix(EARLY, 0, 5, "ha ca da fa ga ha");
        ofSix(LATE, 5, 0, "ba ca da fa ga ba");
        ofSix(SWAP, 0, 5, "ha ca da fa ga ba");
        ofSix(TRADE, 0, 5, "ha ca da fa ga ba");
    }

    static void promise11_neighboursAreTaken() {
        ofSix(EARLY, 4, 5, "ba ca da fa ha ha");
        ofSix(LATE, 1, 0, "ba ba da fa ga ha");
        ofSix(SWAP, 4, 5, "ba ca da fa ha ga");
        ofSix(TRADE, 0, 1, "ca ba da fa ga ha");
    }

    static void promise11_likeOnsetsAreNotTaken() {
        for (int kind = EARLY; kind <= SWAP; kind++) {
            takings(kind, "bat bit", "");
            takings(kind, "strap stroke", "");
            takings(kind, "ant oh", "");
            takings(kind, "b bat", "");
        }
    }

    static void promise11_onsetsAreUnlikeByOneLetter() {
        takings(EARLY, "sat stat", "1 0 1 'stat stat';");
        takings(EARLY, "stat sat", "1 0 1 'sat sat';");
        takings(EARLY, "at sat", "1 0 1 'sat sat';");
        takings(EARLY, "stat spat", "1 0 1 'spat spat';");
        takings(EARLY, "stat tsat", "1 0 1 'tsat tsat';");
    }

    static void promise11_likeOnsetsAreTraded() {
        takings(TRADE, "bat bit", "4 0 1 'bit bat';");
    }

    static void promise11_likeWordsAreNotTraded() {
        SlipDrawer x = new SlipDrawer();
        Desk.word(x, "cat");
        Desk.word(x, "dog", 1, 1, 1);
        Desk.row(x, 0, 1, 0);
        Desk.due("trades", Desk.takings(x, 0, TRADE), "4 0 1 'dog cat cat'; 4 1 2 'cat cat dog';");
        Desk.due("early", Desk.takings(x, 0, EARLY), "1 0 1 'dat dog cat'; 1 1 2 'cat cog cat';");
        Desk.row(x, 0, 0);
        Desk.due("of like ones alone", Desk.takings(x, 1, NONE), "0 -1 -1 'cat cat'; 8 0 -1 'at cat'; 8 1 -1 'cat at';");
    }

    static void promise11_theLongestOnsetAndRestGive16Letters() {
        SlipDrawer x = Desk.rowOf("aeiouaei", "bcdfghjk");
        Desk.due("early", Desk.takings(x, 0, EARLY), "1 0 1 'bcdfghjkaeiouaei bcdfghjk';");
        Desk.due("swap", Desk.takings(x, 0, SWAP), "3 0 1 'bcdfghjkaeiouaei ';");
        Desk.due("far", far(x, EARLY, 0, 1), 16);
    }

    static void promise11_theLongestOfAllIsSaid() {
        SlipDrawer x = new SlipDrawer();
        Desk.word(x, "aeiouaei");
        Desk.word(x, "bcdfghjk");
        Desk.row(x, 0, 0, 0, 0, 0, 1);
        Desk.due("how many", x.tell(0, Desk.find(x, 0, EARLY, 0, 5)), 61);
        Desk.due("said", Desk.said(x), "bcdfghjkaeiouaei aeiouaei aeiouaei aeiouaei aeiouaei bcdfghjk");
        Desk.due("ways", x.ways(0, NONE), 1);
    }

    // ---- promise 11: blend

    static void promise11_aBlendIsOfItsSortAndSense() {
        takings(BLEND, "cat", "dog", 0, 0, "5 0 1 'cog';");
        takings(BLEND, "cat", "dog", 1, 0, "");
        takings(BLEND, "cat", "dog", 0, 1, "");
        takings(BLEND, "cat", "dog", 1, 1, "");
    }

    static void promise11_aBlendIsAnotherRowOfLettersThanTheWord() {
        takings(BLEND, "cat", "hat", 0, 0, "");
        takings(BLEND, "cat", "had", 0, 0, "5 0 1 'cad';");
        takings(BLEND, "sh", "tsk", 0, 0, "");
    }

    static void promise11_aBlendMayBeTheOtherWord() {
        takings(BLEND, "cat", "cot", 0, 0, "5 0 1 'cot';");
    }

    static void promise11_aBlendIsARowOfLettersAtAll() {
        takings(BLEND, "oh", "sh", 0, 0, "");
        takings(BLEND, "sho", "sh", 0, 0, "5 0 1 'sh';");
        takings(BLEND, "sh", "oh", 0, 0, "5 0 1 'shoh';");
        takings(BLEND, "oh", "so", 0, 0, "5 0 1 'o';");
    }

    static void promise11_aBlendMayHave16Letters() {
        takings(BLEND, "bcdfghjk", "aeiouaei", 0, 0, "5 0 1 'bcdfghjkaeiouaei';");
    }

    static void promise11_noWordIsBlendedWithItself() {
        SlipDrawer x = Desk.rowOf("cat");
        Desk.due("blends", x.reals(0, BLEND, false), 0);
    }

    // ---- promise 11: near

    static void promise11_aNearWordIsOfItsSort() {
        takings(NEAR, "cat", "cot", 0, 9, "6 0 1 'cot';");
        takings(NEAR, "cat", "cot", 0, 0, "6 0 1 'cot';");
        takings(NEAR, "cat", "cot", 1, 0, "");
        takings(NEAR, "cat", "cot", 4, 0, "");
    }

    static void promise11_oneSoundIsAnotherOne() {
        near("cat", "hat", true);
        near("cat", "cot", true);
        near("cat", "car", true);
        near("cat", "hot", false);
        near("cat", "cor", false);
        near("cat", "har", false);
    }

    static void promise11_oneSoundIsMoreOrLess() {
        near("cat", "scat", true);
        near("cat", "chat", true);
        near("cat", "cart", true);
        near("cat", "cats", true);
        near("cat", "scats", false);
        near("cat", "chats", false);
        near("cat", "catsy", false);
        near("cat", "sckat", false);
    }

    static void promise11_oneMoreAndOneOtherAreTwo() {
        near("cat", "hats", false);
        near("cat", "cost", false);
        near("cat", "tacs", false);
        near("cat", "atcc", false);
        near("cat", "catt", true);
        near("cat", "ccat", true);
        near("cat", "caat", true);
    }

    static void promise11_changedPlacesAreTwoSounds() {
        near("cat", "cta", false);
        near("cat", "act", false);
        near("ab", "ba", false);
    }

    static void promise11_wordsOfOneLetterAreNear() {
        near("a", "b", true);
        near("a", "ab", true);
        near("a", "ba", true);
        near("a", "bc", false);
        near("a", "abc", false);
    }

    static void promise11_wordsOfEightLettersAreNear() {
        near("strength", "atrength", true);
        near("strength", "strengta", true);
        near("strength", "strengt", true);
        near("strength", "trength", true);
        near("strength", "streng", false);
        near("strength", "atrengta", false);
    }

    static void promise11_noWordIsNearItself() {
        Desk.due("near", Desk.rowOf("cat").reals(0, NEAR, false), 0);
    }

    // ---- promise 11: sense

    static void promise11_aWordOfItsSenseIsOfItsSortToo() {
        takings(SENSE, "cat", "pig", 0, 0, "7 0 1 'pig';");
        takings(SENSE, "cat", "pig", 1, 0, "");
        takings(SENSE, "cat", "pig", 0, 1, "");
        takings(SENSE, "cat", "pig", 4, 9, "");
    }

    static void promise11_theLastSortAndSenseAreTakenToo() {
        SlipDrawer x = new SlipDrawer();
        Desk.word(x, "cat", 4, 9, 1);
        Desk.word(x, "pig", 4, 9, 1);
        Desk.row(x, 0);
        Desk.due("sense", Desk.takings(x, 0, SENSE), "7 0 1 'pig';");
    }

    static void promise11_aWordOfItsSenseIsAnother() {
        Desk.due("sense", Desk.rowOf("cat").reals(0, SENSE, false), 0);
    }

    // ---- promise 11: lost

    static void promise11_anOnsetIsLostIfThereIsOneAndARest() {
        takings(LOST, "cat", "8 0 -1 'at';");
        takings(LOST, "at", "");
        takings(LOST, "ct", "");
        takings(LOST, "cat at ct", "8 0 -1 'at at ct';");
        takings(LOST, "ct at cat", "8 2 -1 'ct at at';");
    }

    // ---- promise 11: numbers

    static void promise11_takingsAreNumberedByKindPlaceOther() {
        SlipDrawer x = new SlipDrawer();
        Desk.word(x, "cat", 0, 0, 1);
        Desk.word(x, "cot", 0, 0, 1);
        Desk.word(x, "dot", 0, 0, 1);
        Desk.row(x, 2, 0);
        Desk.due("all", Desk.takings(x, 0, NONE), "0 -1 -1 'dot cat'; 1 0 1 'cot cat'; 2 1 0 'dot dat'; "
            + "3 0 1 'cot dat'; 4 0 1 'cat dot'; 5 0 0 'dat cat'; 5 1 1 'dot cot'; 5 1 2 'dot cot'; "
            + "6 0 1 'cot cat'; 6 1 1 'dot cot'; 7 0 0 'cat cat'; 7 0 1 'cot cat'; 7 1 1 'dot cot'; 7 1 2 'dot dot'; "
            + "8 0 -1 'ot cat'; 8 1 -1 'dot at';");
    }

    static void promise11_anOtherMayBeTheLastOf30Words() {
        SlipDrawer x = Desk.rowOf("cat");
        for (int i = 1; i < 29; i++) {
            Desk.word(x, "x" + (char) ('a' + i % 13) + (char) ('a' + i / 13), 1, 1, 1);
        }
        Desk.due("word 29", Desk.word(x, "cot", 0, 0, 1), 29);
        Desk.due("all", Desk.takings(x, 0, NONE),
            "0 -1 -1 'cat'; 5 0 29 'cot'; 6 0 29 'cot'; 7 0 29 'cot'; 8 0 -1 'at';");
    }

    static void promise11_aPlaceMayBeTheLastOfSix() {
        SlipDrawer x = Desk.rowOf("oh");
        Desk.word(x, "cat", 1, 1, 1);
        Desk.row(x, 0, 0, 0, 0, 0, 1);
        Desk.due("lost", Desk.takings(x, 1, LOST), "8 5 -1 'oh oh oh oh oh at';");
        Desk.due("late", Desk.takings(x, 1, LATE), "2 5 0 'oh oh oh oh oh at'; 2 5 1 'oh oh oh oh oh at'; "
            + "2 5 2 'oh oh oh oh oh at'; 2 5 3 'oh oh oh oh oh at'; 2 5 4 'oh oh oh oh oh at';");
    }

    // ---- promise 11: real

    static void promise11_aTakingIsRealIfItsWordIsThere() {
        SlipDrawer x = Desk.rowOf("cat", "hot");
        Desk.due("early: hat is none", real(x, EARLY, 0, 1), 0);
        Desk.due("late: cot is none", real(x, LATE, 1, 0), 0);
        Desk.word(x, "hat", 4, 9, 1);
        Desk.due("early: hat is one", real(x, EARLY, 0, 1), 1);
        Desk.due("late: cot is none still", real(x, LATE, 1, 0), 0);
    }

    static void promise11_aSwapIsRealIfBothWordsAreThere() {
        SlipDrawer x = Desk.rowOf("cat", "hot");
        Desk.due("no one", real(x, SWAP, 0, 1), 0);
        Desk.word(x, "hat", 4, 9, 1);
        Desk.due("the first alone", real(x, SWAP, 0, 1), 0);
        Desk.word(x, "cot", 4, 9, 1);
        Desk.due("both", real(x, SWAP, 0, 1), 1);
        SlipDrawer y = Desk.rowOf("cat", "hot");
        Desk.word(y, "cot", 4, 9, 1);
        Desk.due("the second alone", real(y, SWAP, 0, 1), 0);
    }

    static void promise11_tradesNearAndSenseAreReal() {
        SlipDrawer x = Desk.rowOf("cat", "cot");
        Desk.due("trade", real(x, TRADE, 0, 1), 1);
        Desk.due("near", real(x, NEAR, 0, 1), 1);
        Desk.due("sense", real(x, SENSE, 0, 1), 1);
    }

    static void promise11_blendsAndLostOnesAreRealIfTheyAreThere() {
        SlipDrawer x = Desk.rowOf("cat", "dog");
        Desk.due("cog", real(x, BLEND, 0, 1), 0);
        Desk.due("at", real(x, LOST, 0, NONE), 0);
        Desk.word(x, "cog", 3, 3, 3);
        Desk.word(x, "at", 3, 3, 3);
        Desk.due("cog is there", real(x, BLEND, 0, 1), 1);
        Desk.due("at is there", real(x, LOST, 0, NONE), 1);
        Desk.due("og is not", real(x, LOST, 1, NONE), 0);
    }

    static void promise11_nothingIsNoWord() {
        SlipDrawer x = Desk.rowOf("sh", "oh");
        Desk.due("sh without sh", real(x, EARLY, 0, 1), 0);
    }

    static void promise11_eightLettersMayBeAWordNineAreNone() {
        SlipDrawer x = Desk.rowOf("length", "strain");
        Desk.due("eight letters that are no word", real(x, EARLY, 0, 1), 0);
        Desk.word(x, "strength", 1, 1, 1);
        Desk.due("eight letters", real(x, EARLY, 0, 1), 1);
        SlipDrawer y = Desk.rowOf("aeiouaei", "bat");
        Desk.word(y, "baeiouae", 1, 1, 1);
        Desk.due("nine letters, the first eight a word", real(y, EARLY, 0, 1), 0);
    }

    static void promise11_theFirstAndTheLastWordOfAllAreWords() {
        SlipDrawer x = new SlipDrawer();
        Desk.word(x, "hat", 1, 1, 1);
        Desk.word(x, "cat");
        Desk.word(x, "hot");
        for (int i = 3; i < 29; i++) {
            Desk.word(x, "xx" + (char) ('a' + i - 3), 2, 2, 1);
        }
        Desk.row(x, 1, 2);
        Desk.due("hat is word 0", real(x, EARLY, 0, 1), 1);
        Desk.due("cot is none yet", real(x, LATE, 1, 0), 0);
        Desk.due("word 29", Desk.word(x, "cot", 1, 1, 1), 29);
        Desk.due("cot is word 29", real(x, LATE, 1, 0), 1);
    }

    // ---- promise 11: heard

    static void promise11_withoutAnEarAllIsHeard100() {
        SlipDrawer x = Desk.rowOf("cat", "dog");
        for (int k = 0; k < x.takings(0); k++) {
            Desk.due("heard " + k, x.taking(0, k, 4), 100);
        }
    }

    static void promise11_heardIs0To100() {
        SlipDrawer x = Desk.rowOf("cat");
        Desk.ear(x, "none 100 when all;");
        Desk.due("100", x.taking(0, 0, 4), 100);
        Desk.ear(x, "none 101 when all;");
        Desk.due("101", x.taking(0, 0, 4), 100);
        Desk.ear(x, "none 99 when all;");
        Desk.due("99", x.taking(0, 0, 4), 99);
        Desk.ear(x, "none 1000 * 1000 when all;");
        Desk.due("the greatest", x.taking(0, 0, 4), 100);
        Desk.ear(x, "none 0 when all;");
        Desk.due("0", x.taking(0, 0, 4), 0);
        Desk.ear(x, "none 0 - 1 when all;");
        Desk.due("-1", x.taking(0, 0, 4), 0);
        Desk.ear(x, "none 0 - 1000 * 1000 when all;");
        Desk.due("the least", x.taking(0, 0, 4), 0);
        Desk.ear(x, "none 1 when all;");
        Desk.due("1", x.taking(0, 0, 4), 1);
    }

    static void promise11_withoutAStatementNothingIsHeard() {
        SlipDrawer x = Desk.rowOf("cat");
        Desk.ear(x, "lost 9 when all; none 9 when not all;");
        Desk.due("none", x.taking(0, 0, 4), 0);
        Desk.due("lost", x.taking(0, 1, 4), 9);
    }

    static void promise11_theFirstStatementThatHoldsIsHeard() {
        SlipDrawer x = Desk.rowOf("cat");
        Desk.ear(x, "none 1 when not real; none 2 when real; none 3 when all;");
        Desk.due("none", x.taking(0, 0, 4), 2);
    }

    // ---- promise 11: far

    static void promise11_farCountsPlaceByPlaceFromTheFirstLetterOn() {
        SlipDrawer x = Desk.rowOf("cat", "dog", "ant", "stop");
        Desk.due("dat of cat", far(x, EARLY, 0, 1), 1);
        Desk.due("at of cat", far(x, EARLY, 0, 2), 3);
        Desk.due("stat of cat", far(x, EARLY, 0, 3), 4);
        Desk.due("cant of ant", far(x, LATE, 2, 0), 4);
        Desk.due("op of stop", far(x, LATE, 3, 2), 4);
        Desk.due("cop of stop", far(x, LATE, 3, 0), 4);
        Desk.due("sense: dog for cat", far(x, SENSE, 0, 1), 3);
        Desk.due("sense: stop for cat", far(x, SENSE, 0, 3), 4);
        Desk.due("lost: og of dog", far(x, LOST, 1, NONE), 3);
    }

    static void promise11_farIsOfTheFirstChangedWord() {
        SlipDrawer x = Desk.rowOf("cat", "stop");
        Desk.due("swap: stat of cat, not cop of stop", far(x, SWAP, 0, 1), 4);
        SlipDrawer y = Desk.rowOf("bat", "cobra");
        Desk.due("swap: cat of bat", far(y, SWAP, 0, 1), 1);
        Desk.due("trade: cobra of bat", far(y, TRADE, 0, 1), 5);
        Desk.due("late: bobra of cobra", far(y, LATE, 1, 0), 1);
    }

    static void promise11_farOfNearIs1OrMore() {
        SlipDrawer x = Desk.rowOf("cat", "cot", "cats", "scat");
        Desk.due("another one", far(x, NEAR, 0, 1), 1);
        Desk.due("one more behind", far(x, NEAR, 0, 2), 1);
        Desk.due("one more ahead", far(x, NEAR, 0, 3), 4);
        Desk.due("one less ahead", far(x, NEAR, 3, 0), 4);
    }

    static void promise11_farOfAWordThatIsGone() {
        SlipDrawer x = Desk.rowOf("sh", "oh");
        Desk.due("nothing of sh", far(x, EARLY, 0, 1), 2);
    }
}
