/** Boundaries of promises 31 to 35: rows that part makings, real words, wishes, leans. */
public final class PartingEdgesTest {
    private static final int NONE = Desk.NONE;

    public static void main(String[] args) {
        Desk.runAll(PartingEdgesTest.class);
    }

    /** One row, cat hat, of one sort and sense, with two makings. */
    private static SlipDrawer catHat(String first, String second) {
        SlipDrawer x = Desk.rowOf("cat", "hat");
        Desk.making(x, 0, first);
        Desk.making(x, 1, second);
        return x;
    }

    private static void apart(String first, String second, int want) {
        SlipDrawer x = catHat(first, second);
        Desk.due(first + " and " + second, x.apart(0, 0, 1), want);
        Desk.due(second + " and " + first, x.apart(0, 1, 0), want);
    }

    // ---- promise 31

    static void promise31_theRowIsThere() {
        SlipDrawer x = Desk.full();
        Desk.due("-1", x.apart(-1, 0, 2), NONE);
        Desk.due("0", x.apart(0, 0, 2) > 0, true);
        Desk.due("2", x.apart(2, 0, 2) > 0, true);
        Desk.due("3 of 3", x.apart(3, 0, 2), NONE);
        Desk.due("the least", x.apart(Desk.LEAST, 0, 2), NONE);
        Desk.due("the greatest", x.apart(Desk.MOST, 0, 2), NONE);
    }

    static void promise31_bothMakingsAreThere() {
        SlipDrawer x = Desk.full();
        for (int wrong : new int[] {-1, 1, 4, Desk.LEAST, Desk.MOST}) {
            Desk.due("first " + wrong, x.apart(0, wrong, 0), NONE);
            Desk.due("second " + wrong, x.apart(0, 0, wrong), NONE);
            Desk.due("both " + wrong, x.apart(0, wrong, wrong), NONE);
        }
        Desk.due("0 and 3", x.apart(0, 0, 3), 0);
    }

    static void promise31_withoutATotalItIs0() {
        apart("none 1 when all;", "", 0);
        apart("", "", 0);
        apart("none 1 when all;", "none 0 when all;", 0);
        apart("none 1 when all;", "lost 1 when all;", 2000000);
    }

    static void promise31_likeMakingsAre0Apart() {
        apart("none 1 when all;", "none 1 when all;", 0);
        apart("none 1 when all;", "none 1000 when all;", 0);
        apart("none 3 when all; trade 2 when all;", "none 6 when all; trade 4 when all;", 0);
        Desk.due("one with itself", catHat("none 1 when all;", "").apart(0, 0, 0), 0);
    }

    static void promise31_unlikeMakingsAreTwoMillionApartAtMost() {
        apart("none 1 when all;", "trade 1 when all;", 2000000);
        apart("none 1000 when all;", "trade 1 when all; lost 999 when all;", 2000000);
    }

    static void promise31_theSameSaidByOtherKindsIsNotApart() {
        apart("swap 1 when all;", "trade 1 when all;", 0);
        apart("near 1 when all;", "sense 1 when all;", 0);
        apart("swap 1 when all; trade 1 when all;", "trade 5 when all;", 0);
    }

    static void promise31_aPartOfAMillionthIsRoundedDown() {
        // 4/3
        apart("none 1 when all;", "none 1 when all; trade 2 when all;", 1333333);
        // 2/3 + 1/3 + 1/3: rounded down once, for the whole sum
        apart("none 1 when all;", "none 1 when all; trade 1 when all; lost 1 when place = 0;", 1333333);
        // 2 / (1997 * 1999), 2 / (1415 * 1417), 2 / (1413 * 1415)
        apart("none 998 when all; trade 999 when all;", "none 999 when all; trade 1000 when all;", 0);
        apart("none 707 when all; trade 708 when all;", "none 708 when all; trade 709 when all;", 0);
        apart("none 706 when all; trade 707 when all;", "none 707 when all; trade 708 when all;", 1);
    }

    static void promise31_theGreatestTotalsAreApart() {
        SlipDrawer x = new SlipDrawer();
        for (int i = 0; i < 30; i++) {
            Desk.word(x, "" + "bcdfgh".charAt(i % 6) + "aeiou".charAt(i / 6), 0, 0, 1);
        }
        Desk.row(x, 0, 1, 2, 3, 4, 5);
        StringBuilder text = new StringBuilder();
        for (int kind = 1; kind <= 8; kind++) {
            text.append(Model.KINDS[kind]).append(" 1000 when all;");
        }
        Desk.making(x, 0, text + "none 1000 when all;");
        Desk.making(x, 1, text.toString());
        // none: 1/439; all else: 438 * (1/438 - 1/439)
        Desk.due("2/439", x.apart(0, 0, 1), 4555);
    }

    static void promise31_askingChangesNothing() {
        Desk.stays("apart", x -> {
            x.apart(0, 0, 2);
            x.apart(0, 1, 2);
            x.apart(3, 0, 2);
        });
    }

    // ---- promise 32

    static void promise32_twoMakingsAreNeeded() {
        SlipDrawer x = Desk.rowOf("cat");
        Desk.due("none", x.next(), NONE);
        Desk.making(x, 3, "none 1 when all;");
        Desk.due("one", x.next(), NONE);
        Desk.making(x, 3, "lost 1 when all;");
        Desk.due("one, told twice", x.next(), NONE);
        Desk.ear(x, "none 1 when all;");
        Desk.due("one and an ear", x.next(), NONE);
        Desk.making(x, 1, "none 1 when all;");
        Desk.due("two", x.next(), 0);
    }

    static void promise32_aRowIsNeeded() {
        SlipDrawer x = new SlipDrawer();
        Desk.making(x, 0, "none 1 when all;");
        Desk.making(x, 1, "lost 1 when all;");
        Desk.word(x, "cat");
        Desk.due("without rows", x.next(), NONE);
        Desk.row(x, 0);
        Desk.due("with one", x.next(), 0);
    }

    static void promise32_theFirstOfLikeRows() {
        SlipDrawer x = catHat("none 1 when all;", "lost 1 when all;");
        Desk.row(x, 0);
        Desk.row(x, 1);
        Desk.due("all are 2000000", x.next(), 0);
        Desk.making(x, 1, "none 1 when all;");
        Desk.due("all are 0", x.next(), 0);
        Desk.making(x, 1, "");
        Desk.due("all are without a TOTAL", x.next(), 0);
        Desk.making(x, 1, "none 1 when words = 2; lost 1 when words = 1;");
        Desk.due("the second and the third are alike", x.next(), 1);
    }

    static void promise32_oneMillionthMoreIsMore() {
        SlipDrawer x = Desk.rowOf("cat", "hat");
        Desk.row(x, 0);
        Desk.making(x, 0, "none 706 when all; trade 707 when all; lost 0 when all;");
        Desk.making(x, 1, "none 707 when all; trade 708 when all;");
        Desk.due("row 0, by 1", x.apart(0, 0, 1), 1);
        Desk.due("row 1, by 0", x.apart(1, 0, 1), 0);
        Desk.due("next", x.next(), 0);
        Desk.making(x, 0, "none 998 when all; lost 999 when words = 1;");
        Desk.making(x, 1, "none 999 when all; lost 1000 when words = 1;");
        Desk.due("both by 0", x.next(), 0);
        Desk.making(x, 0, "none 706 when all; lost 707 when words = 1;");
        Desk.making(x, 1, "none 707 when all; lost 708 when words = 1;");
        Desk.due("row 1, by 1", x.next(), 1);
    }

    static void promise32_theTwelfthRowMayBeIt() {
        SlipDrawer x = Desk.rowOf("sh");
        Desk.word(x, "cat", 1, 1, 1);
        for (int i = 1; i < 11; i++) {
            Desk.row(x, 0);
        }
        Desk.row(x, 1);
        Desk.making(x, 0, "none 1 when all;");
        Desk.making(x, 2, "none 1 when all; lost 1 when all;");
        Desk.due("row 11", x.next(), 11);
    }

    static void promise32_allMakingsCountByTwos() {
        // row 0, cat hat; row 1, cat. Makings 0 and 3 are apart on row 1, 1 and 2 (and 0) on row 0
        SlipDrawer x = Desk.rowOf("cat", "hat");
        Desk.row(x, 0);
        Desk.making(x, 0, "none 1 when all;");
        Desk.making(x, 3, "none 1 when words = 2; lost 1 when words = 1;");
        Desk.due("0 and 3 alone", x.next(), 1);
        Desk.making(x, 1, "none 1 when words = 1; trade 1 when all;");
        Desk.due("by twos 0 4 4, and 0 0 4 of row 1: 0, with 1", x.next(), 0);
        Desk.making(x, 2, "none 1 when words = 2; lost 1 when words = 1;");
        Desk.due("two and two on row 1", x.next(), 1);
    }

    static void promise32_aMakingWithoutATotalOnARowPartsNothingThere() {
        SlipDrawer x = Desk.rowOf("cat", "hat");
        Desk.row(x, 0);
        Desk.making(x, 0, "none 1 when all;");
        Desk.making(x, 1, "lost 1 when words = 1;");
        Desk.due("on row 0", x.apart(0, 0, 1), 0);
        Desk.due("next", x.next(), 1);
    }

    static void promise32_askingChangesNothing() {
        Desk.stays("next", x -> x.next());
    }

    // ---- promise 33

    static void promise33_theRowIsThere() {
        SlipDrawer x = Desk.full();
        Desk.due("-1", x.reals(-1, 0, true), NONE);
        Desk.due("2", x.reals(2, 0, true), 1);
        Desk.due("3 of 3", x.reals(3, 0, true), NONE);
        Desk.due("3 of 3, in all", x.reals(3, 0, false), NONE);
        Desk.due("the least", x.reals(Desk.LEAST, 0, true), NONE);
        Desk.due("the greatest", x.reals(Desk.MOST, 0, true), NONE);
    }

    static void promise33_aKindIs0To8() {
        SlipDrawer x = Desk.full();
        Desk.due("-1", x.reals(0, -1, true), NONE);
        Desk.due("-1, in all", x.reals(0, -1, false), NONE);
        Desk.due("0", x.reals(0, 0, true), 1);
        Desk.due("8", x.reals(0, 8, true), 0);
        Desk.due("8, in all", x.reals(0, 8, false), 2);
        Desk.due("9", x.reals(0, 9, true), NONE);
        Desk.due("9, in all", x.reals(0, 9, false), NONE);
        Desk.due("the least", x.reals(0, Desk.LEAST, true), NONE);
        Desk.due("the greatest", x.reals(0, Desk.MOST, true), NONE);
    }

    static void promise33_noTakingOfAKindIs0() {
        SlipDrawer x = Desk.rowOf("sh");
        for (int kind = 1; kind <= 8; kind++) {
            Desk.due("kind " + kind, x.reals(0, kind, false), 0);
            Desk.due("kind " + kind + ", real", x.reals(0, kind, true), 0);
        }
    }

    static void promise33_realOnesAreSomeOfAll() {
        SlipDrawer x = Desk.rowOf("cat", "hot");
        Desk.due("early", x.reals(0, 1, false), 1);
        Desk.due("early, real", x.reals(0, 1, true), 0);
        Desk.word(x, "hat", 3, 3, 3);
        Desk.due("early, still", x.reals(0, 1, false), 1);
        Desk.due("early, real now", x.reals(0, 1, true), 1);
    }

    static void promise33_allTakingsAreOfSomeKind() {
        SlipDrawer x = Desk.full();
        int sum = 0;
        for (int kind = 0; kind <= 8; kind++) {
            sum += x.reals(1, kind, false);
        }
        Desk.due("together", sum, x.takings(1));
    }

    static void promise33_askingChangesNothing() {
        Desk.stays("reals", x -> {
            for (int kind = -1; kind <= 9; kind++) {
                x.reals(0, kind, true);
                x.reals(3, kind, false);
            }
        });
    }

    // ---- promise 34

    private static void wish(SlipDrawer x, int sense, int above, int below) {
        Desk.due("above of " + sense, x.wish(0, 0, sense, true), above);
        Desk.due("below of " + sense, x.wish(0, 0, sense, false), below);
    }

    /** cat (sense 0), dog (sense 9), at (sense 5), of unlike sorts; the row is cat dog. */
    private static SlipDrawer senses(String making) {
        SlipDrawer x = new SlipDrawer();
        Desk.word(x, "cat", 0, 0, 1);
        Desk.word(x, "dog", 1, 9, 1);
        Desk.word(x, "at", 2, 5, 1);
        Desk.row(x, 0, 1);
        Desk.making(x, 0, making);
        return x;
    }

    static void promise34_theRowIsThere() {
        SlipDrawer x = Desk.full();
        Desk.due("-1", x.wish(-1, 0, 1, true), NONE);
        Desk.due("2", x.wish(2, 0, 1, true) > 0, true);
        Desk.due("3 of 3", x.wish(3, 0, 1, true), NONE);
        Desk.due("the least", x.wish(Desk.LEAST, 0, 1, true), NONE);
        Desk.due("the greatest", x.wish(Desk.MOST, 0, 1, true), NONE);
    }

    static void promise34_theMakingIsThere() {
        SlipDrawer x = Desk.full();
        Desk.due("-1", x.wish(0, -1, 1, true), NONE);
        Desk.due("0", x.wish(0, 0, 1, true) > 0, true);
        Desk.due("1, which is not there", x.wish(0, 1, 1, true), NONE);
        Desk.due("4, though there is an ear", x.wish(0, 4, 1, true), NONE);
        Desk.due("the least", x.wish(0, Desk.LEAST, 1, true), NONE);
        Desk.due("the greatest", x.wish(0, Desk.MOST, 1, true), NONE);
    }

    static void promise34_aSenseIs0To9() {
        SlipDrawer x = senses("none 2 when all; trade 1 when all; lost 1 when place = 0;");
        wish(x, -1, NONE, NONE);
        wish(x, 0, 1, 4);
        wish(x, 5, 1, 4);
        wish(x, 9, 1, 4);
        wish(x, 10, NONE, NONE);
        wish(x, Desk.LEAST, NONE, NONE);
        wish(x, Desk.MOST, NONE, NONE);
        wish(x, 32, NONE, NONE);
    }

    static void promise34_withoutATotalThereAreNoOdds() {
        wish(senses(""), 0, NONE, NONE);
        wish(senses("trade 0 when all;"), 0, NONE, NONE);
        wish(senses("trade 1 when all;"), 0, 1, 1);
    }

    static void promise34_aSenseThatNoWordHasIs0Through1() {
        wish(senses("trade 1 when all;"), 3, 0, 1);
    }

    static void promise34_noneHasNoChangedWord() {
        wish(senses("none 1 when all;"), 0, 0, 1);
        wish(senses("none 1 when all;"), 9, 0, 1);
    }

    static void promise34_aChangedWordThatIsNoneHasNoSense() {
        SlipDrawer x = senses("early 1 when all; lost 1 when place = 1;");
        for (int sense = 0; sense <= 9; sense++) {
            wish(x, sense, 0, 1);
        }
    }

    static void promise34_theSenseIsThatOfTheWordThatIsSaid() {
        SlipDrawer x = senses("lost 1 when place = 0;");
        wish(x, 5, 1, 1);
        wish(x, 0, 0, 1);
    }

    static void promise34_oneChangedWordOfTwoIsEnough() {
        SlipDrawer x = Desk.rowOf("cat", "hot");
        Desk.word(x, "hat", 4, 7, 1);
        Desk.making(x, 0, "swap 1 when all; none 1 when all;");
        wish(x, 7, 1, 2);
        SlipDrawer y = Desk.rowOf("cat", "hot");
        Desk.word(y, "cot", 4, 7, 1);
        Desk.making(y, 0, "swap 1 when all; none 1 when all;");
        wish(y, 7, 1, 2);
    }

    static void promise34_twoChangedWordsOfASenseCountOnce() {
        SlipDrawer x = Desk.rowOf("cat", "dog");
        Desk.making(x, 0, "trade 1 when all; none 2 when all;");
        wish(x, 0, 1, 3);
    }

    static void promise34_wordsThatAreNotChangedDoNotCount() {
        SlipDrawer x = senses("lost 1 when place = 0;");
        wish(x, 9, 0, 1);
    }

    static void promise34_aWordThatComesLaterBringsItsSenseAlone() {
        SlipDrawer x = Desk.rowOf("cat");
        Desk.word(x, "at", 2, 5, 1);
        Desk.making(x, 0, "near 1 when all; lost 1 when all;");
        wish(x, 5, 1, 1);
        Desk.word(x, "cot", 0, 7, 1);
        wish(x, 5, 1, 2);
        wish(x, 7, 1, 2);
    }

    static void promise34_oddsAreInLowestTerms() {
        wish(senses("none 6 when all; trade 4 when all;"), 0, 2, 5);
    }

    static void promise34_askingChangesNothing() {
        Desk.stays("wish", x -> {
            x.wish(0, 0, 1, true);
            x.wish(0, 3, 1, true);
            x.wish(0, 0, 10, true);
        });
    }

    // ---- promise 35

    private static void lean(SlipDrawer x, int kind, int above, int below) {
        Desk.due("above of " + kind, x.lean(0, 0, kind, true), above);
        Desk.due("below of " + kind, x.lean(0, 0, kind, false), below);
    }

    /** The row cat, with none and lost. */
    private static SlipDrawer heard(String making, String ear) {
        SlipDrawer x = Desk.rowOf("cat");
        Desk.making(x, 0, making);
        Desk.ear(x, ear);
        return x;
    }

    static void promise35_theRowIsThere() {
        SlipDrawer x = Desk.full();
        Desk.due("-1", x.lean(-1, 0, 0, true), NONE);
        Desk.due("2", x.lean(2, 0, 0, true) > 0, true);
        Desk.due("3 of 3", x.lean(3, 0, 0, true), NONE);
        Desk.due("the least", x.lean(Desk.LEAST, 0, 0, true), NONE);
        Desk.due("the greatest", x.lean(Desk.MOST, 0, 0, true), NONE);
    }

    static void promise35_theMakingIsThere() {
        SlipDrawer x = Desk.full();
        Desk.due("-1", x.lean(0, -1, 0, true), NONE);
        Desk.due("0", x.lean(0, 0, 0, true) > 0, true);
        Desk.due("1, which is not there", x.lean(0, 1, 0, true), NONE);
        Desk.due("4, though there is an ear", x.lean(0, 4, 0, true), NONE);
        Desk.due("the least", x.lean(0, Desk.LEAST, 0, true), NONE);
        Desk.due("the greatest", x.lean(0, Desk.MOST, 0, true), NONE);
    }

    static void promise35_aKindIs0To8() {
        SlipDrawer x = heard("none 1 when all; lost 2 when all;", "none 100 when all; lost 100 when all;");
        lean(x, -1, NONE, NONE);
        lean(x, 0, 1, 3);
        lean(x, 4, 0, 1);
        lean(x, 8, 2, 3);
        lean(x, 9, NONE, NONE);
        lean(x, Desk.LEAST, NONE, NONE);
        lean(x, Desk.MOST, NONE, NONE);
    }

    static void promise35_withoutATotalThereAreNoOdds() {
        lean(heard("", "none 1 when all;"), 0, NONE, NONE);
        lean(heard("none 0 when all;", "none 1 when all;"), 0, NONE, NONE);
        lean(heard("none 1 when all;", "none 1 when all;"), 0, 1, 1);
    }

    static void promise35_whenNothingIsHeardThereAreNoOdds() {
        lean(heard("none 1 when all;", ""), 0, NONE, NONE);
        lean(heard("none 1 when all;", "none 0 when all;"), 0, NONE, NONE);
        lean(heard("none 1 when all;", "lost 100 when all;"), 0, NONE, NONE);
        lean(heard("none 1 when all;", "lost 100 when all;"), 8, NONE, NONE);
        lean(heard("none 1 when all;", "none 1 when all;"), 8, 0, 1);
    }

    static void promise35_withoutAnEarAllIsHeard() {
        SlipDrawer x = Desk.rowOf("cat");
        Desk.making(x, 0, "none 3 when all; lost 1 when all;");
        lean(x, 0, 3, 4);
        lean(x, 8, 1, 4);
        lean(x, 3, 0, 1);
    }

    static void promise35_weightsAreTimesHeard() {
        SlipDrawer x = heard("none 3 when all; lost 1 when all;", "none 10 when all; lost 50 when all;");
        lean(x, 0, 3, 8);
        lean(x, 8, 5, 8);
    }

    static void promise35_heardAbove100Is100() {
        SlipDrawer x = heard("none 1 when all; lost 1 when all;", "none 9999 when all; lost 50 when all;");
        lean(x, 0, 2, 3);
    }

    static void promise35_theGreatestWeightsAreTimesHeard() {
        SlipDrawer x = new SlipDrawer();
        for (int i = 0; i < 30; i++) {
            Desk.word(x, "" + "bcdfgh".charAt(i % 6) + "aeiou".charAt(i / 6), 0, 0, 1);
        }
        Desk.row(x, 0, 1, 2, 3, 4, 5);
        StringBuilder text = new StringBuilder("none 1 when all;");
        for (int kind = 1; kind <= 8; kind++) {
            text.append(Model.KINDS[kind]).append(" 1000 when all;");
        }
        Desk.making(x, 0, text.toString());
        Desk.ear(x, text.toString());
        lean(x, 0, 1, 43800001);
        lean(x, 7, 17400000, 43800001);
    }

    static void promise35_askingChangesNothing() {
        Desk.stays("lean", x -> {
            x.lean(0, 0, 0, true);
            x.lean(0, 3, 0, true);
            x.lean(0, 0, 9, true);
        });
    }
}
