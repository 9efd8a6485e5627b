/** Boundaries of promises 12 to 16: weights and what they are worked out of, draws, what is said. */
public final class WeightsEdgesTest {
    private static final int NONE = Desk.NONE;

    public static void main(String[] args) {
        Desk.runAll(WeightsEdgesTest.class);
    }

    /** The weight of none, in a row of one word, by a making with this sum. */
    private static void sum(String sum, int want) {
        SlipDrawer x = Desk.rowOf("cat");
        Desk.due("statements of " + sum, Desk.making(x, 0, "none " + sum + " when all;"), 1);
        Desk.due(sum, x.weight(0, 0, 0), want);
    }

    /** Whether a test holds, for none, in a row of one word. */
    private static void test(String test, boolean want) {
        SlipDrawer x = Desk.rowOf("cat");
        Desk.due("statements of " + test, Desk.making(x, 0, "none 1 when " + test + ";"), 1);
        Desk.due(test, x.weight(0, 0, 0), want ? 1 : 0);
    }

    /** What a fact is worth for a taking of the row cat (3) dog (0) ant (1); 2 is cog, 4 is cot. */
    private static void fact(String name, int kind, int place, int other, int want) {
        SlipDrawer x = new SlipDrawer();
        Desk.word(x, "dog", 0, 1, 99);
        Desk.word(x, "ant", 1, 1, 30);
        Desk.word(x, "cog", 2, 2, 5);
        Desk.word(x, "cat", 0, 1, 1);
        Desk.word(x, "cot", 0, 3, 42);
        Desk.row(x, 3, 0, 1);
        StringBuilder text = new StringBuilder();
        for (String each : Model.KINDS) {
            text.append(each).append(" 100 + ").append(name).append(" when all;");
        }
        Desk.making(x, 0, text.toString());
        int k = Desk.find(x, 0, kind, place, other);
        Desk.due("there is such a taking", k != NONE, true);
        Desk.due(name + " of kind " + kind + " at " + place + " with " + other, x.weight(0, k, 0), 100 + want);
    }

    // ---- promise 12: which is asked for

    static void promise12_theRowIsThere() {
        SlipDrawer x = Desk.full();
        Desk.due("-1", x.weight(-1, 0, 0), NONE);
        Desk.due("2", x.weight(2, 0, 0), 4);
        Desk.due("3 of 3", x.weight(3, 0, 0), NONE);
        Desk.due("TOTAL of -1", x.weight(-1, NONE, 0), NONE);
        Desk.due("TOTAL of 3", x.weight(3, NONE, 0), NONE);
        Desk.due("the least", x.weight(Desk.LEAST, 0, 0), NONE);
        Desk.due("the greatest", x.weight(Desk.MOST, 0, 0), NONE);
    }

    static void promise12_theTakingIsThereOrNone() {
        SlipDrawer x = Desk.full();
        int many = x.takings(0);
        Desk.due("-2", x.weight(0, -2, 0), NONE);
        Desk.due("NONE", x.weight(0, NONE, 0) > 0, true);
        Desk.due("0", x.weight(0, 0, 0), 4);
        Desk.due("the last", x.weight(0, many - 1, 0), 0);
        Desk.due("one more", x.weight(0, many, 0), NONE);
        Desk.due("the least", x.weight(0, Desk.LEAST, 0), NONE);
        Desk.due("the greatest", x.weight(0, Desk.MOST, 0), NONE);
    }

    static void promise12_theMakingIsThere() {
        SlipDrawer x = Desk.full();
        Desk.due("-1", x.weight(0, 0, -1), NONE);
        Desk.due("0", x.weight(0, 0, 0), 4);
        Desk.due("1, which is not there", x.weight(0, 0, 1), NONE);
        Desk.due("2", x.weight(0, 0, 2), 1);
        Desk.due("3", x.weight(0, 0, 3), 0);
        Desk.due("4, though there is an ear", x.weight(0, 0, 4), NONE);
        Desk.due("TOTAL by 1", x.weight(0, NONE, 1), NONE);
        Desk.due("TOTAL by 4", x.weight(0, NONE, 4), NONE);
        Desk.due("the least", x.weight(0, 0, Desk.LEAST), NONE);
        Desk.due("the greatest", x.weight(0, 0, Desk.MOST), NONE);
    }

    static void promise12_totalIsOfAllTakings() {
        SlipDrawer x = Desk.full();
        for (int row = 0; row < 3; row++) {
            for (int making = 0; making < 4; making++) {
                int total = making == 1 ? NONE : 0;
                for (int k = 0; k < x.takings(row) && making != 1; k++) {
                    total += x.weight(row, k, making);
                }
                Desk.due("TOTAL of " + row + " by " + making, x.weight(row, NONE, making), total);
            }
        }
    }

    static void promise12_totalMayBe0() {
        SlipDrawer x = Desk.full();
        Desk.due("TOTAL", x.weight(0, NONE, 3), 0);
    }

    static void promise12_theGreatestTotalOfAll() {
        SlipDrawer x = new SlipDrawer();
        for (int i = 0; i < 30; i++) {
            Desk.word(x, "" + "bcdfgh".charAt(i % 6) + "aeiou".charAt(i / 6), 0, 0, 1);
        }
        Desk.row(x, 0, 1, 2, 3, 4, 5);
        StringBuilder text = new StringBuilder();
        for (String kind : Model.KINDS) {
            text.append(kind).append(" 9999 when all;");
        }
        Desk.making(x, 0, text.toString());
        Desk.due("TOTAL", x.weight(0, NONE, 0), 1000 * x.takings(0));
    }

    static void promise12_askingChangesNothing() {
        Desk.stays("weight", x -> {
            for (int k = -2; k <= 99; k += 7) {
                x.weight(0, k, 0);
                x.weight(1, k, 4);
                x.weight(3, k, 2);
            }
        });
    }

    // ---- promise 12: weights

    static void promise12_aWeightIs0To1000() {
        sum("0 - 1", 0);
        sum("0", 0);
        sum("1", 1);
        sum("999", 999);
        sum("1000", 1000);
        sum("1001", 1000);
        sum("9999", 1000);
        sum("1000 * 1000", 1000);
        sum("0 - 1000 * 1000", 0);
    }

    static void promise12_withoutAStatementOfItsKindAWeightIs0() {
        SlipDrawer x = Desk.rowOf("cat");
        Desk.making(x, 0, "lost 5 when all;");
        Desk.due("none", x.weight(0, 0, 0), 0);
        Desk.due("lost", x.weight(0, 1, 0), 5);
    }

    static void promise12_withoutATestThatHoldsAWeightIs0() {
        SlipDrawer x = Desk.rowOf("cat");
        Desk.making(x, 0, "none 5 when not all; none 6 when 1 > 2;");
        Desk.due("none", x.weight(0, 0, 0), 0);
    }

    static void promise12_theFirstStatementThatHoldsCountsEvenWith0() {
        SlipDrawer x = Desk.rowOf("cat");
        Desk.making(x, 0, "none 7 when not all; none 0 when all; none 5 when all;");
        Desk.due("0 ahead of 5", x.weight(0, 0, 0), 0);
        Desk.making(x, 0, "none 0 - 5 when all; none 5 when all;");
        Desk.due("below 0 ahead of 5", x.weight(0, 0, 0), 0);
        Desk.making(x, 0, "none 3 when all; none 5 when all;");
        Desk.due("3 ahead of 5", x.weight(0, 0, 0), 3);
    }

    static void promise12_the20thStatementCounts() {
        SlipDrawer x = Desk.rowOf("cat");
        Desk.making(x, 0, "none 1 when not all;".repeat(19) + "none 20 when all;");
        Desk.due("none", x.weight(0, 0, 0), 20);
    }

    static void promise12_aWordThatComesLaterIsWeighed() {
        SlipDrawer x = Desk.rowOf("cat");
        Desk.making(x, 0, "none 1 when all; near 5 when all; lost 2 when real; lost 1 when all;");
        Desk.due("TOTAL", x.weight(0, NONE, 0), 2);
        Desk.word(x, "at", 1, 1, 1);
        Desk.due("TOTAL with at", x.weight(0, NONE, 0), 3);
        Desk.word(x, "cot", 0, 1, 1);
        Desk.due("TOTAL with cot", x.weight(0, NONE, 0), 8);
    }

    // ---- promise 12: sums

    static void promise12_aSumAboveAMillionIsAMillion() {
        sum("(1000 * 1000 + 0 - 999 * 1000) / 1", 1000);
        sum("1000 * 1000 + 0 - 9999 * 100", 100);
        sum("1000 * 1000 + 1 - 9999 * 100", 100);
        sum("1000 * 1000 + 9999 - 9999 * 100", 100);
        sum("1000 * 1000 - 1 - 9999 * 100", 99);
    }

    static void promise12_aDifferenceBelowMinusAMillionIsThat() {
        sum("0 - 1000 * 1000 - 0 + 9999 * 100 + 200", 100);
        sum("0 - 1000 * 1000 - 1 + 9999 * 100 + 200", 100);
        sum("0 - 1000 * 1000 - 9999 + 9999 * 100 + 200", 100);
        sum("0 - 1000 * 1000 + 1 + 9999 * 100 + 200", 101);
    }

    static void promise12_aDifferenceAboveAMillionIsAMillion() {
        sum("1000 * 1000 - (0 - 1) - 9999 * 100", 100);
        sum("999 * 1000 - (0 - 999) - 9999 * 100", 99);
        sum("999 * 1000 - (0 - 1000) - 9999 * 100", 100);
        sum("999 * 1000 - (0 - 1001) - 9999 * 100", 100);
    }

    static void promise12_aSumBelowMinusAMillionIsThat() {
        sum("(0 - 1000 * 1000) + (0 - 1) + 9999 * 100 + 200", 100);
        sum("(0 - 999 * 1000) + (0 - 999) + 9999 * 100 + 200", 101);
        sum("(0 - 999 * 1000) + (0 - 1001) + 9999 * 100 + 200", 100);
    }

    static void promise12_aProductAboveAMillionIsAMillion() {
        sum("1000 * 1000 / 1000", 1000);
        sum("1001 * 1000 - 9999 * 100", 100);
        sum("1000 * 1000 - 9999 * 100", 100);
        sum("999 * 1001 - 9999 * 100", 99);
        sum("9999 * 9999 / 2000", 500);
        sum("9999 * 9999 * 9999 / 2000", 500);
        sum("(0 - 9999) * (0 - 9999) / 2000", 500);
        sum("1000 * 1000 * (1000 * 1000) / 2000", 500);
    }

    static void promise12_aProductBelowMinusAMillionIsThat() {
        sum("(0 - 1000) * 1000 + 9999 * 100 + 200", 100);
        sum("(0 - 1001) * 1000 + 9999 * 100 + 200", 100);
        sum("(0 - 999) * 1001 + 9999 * 100 + 200", 101);
        sum("9999 * (0 - 9999) / 2000 + 600", 100);
        sum("1000 * 1000 * (0 - 1000 * 1000) / 2000 + 600", 100);
    }

    static void promise12_eachStepIsHeldNotTheWholeAlone() {
        sum("9999 * 9999 - 9999 * 9999 + 5", 5);
        sum("9999 * 9999 / 9999 * 9", 900);
        sum("9999 * (9999 / 9999)", 1000);
    }

    static void promise12_aQuotientIsTheGreatestWholeNumberNotAbove() {
        sum("7 / 2", 3);
        sum("6 / 2", 3);
        sum("1 / 2", 0);
        sum("0 / 2", 0);
        sum("2 / 2", 1);
    }

    static void promise12_aQuotientOfNumbersBelow0IsNotAboveToo() {
        sum("100 + (0 - 7) / 2", 96);
        sum("100 + (0 - 6) / 2", 97);
        sum("100 + 7 / (0 - 2)", 96);
        sum("100 + 6 / (0 - 2)", 97);
        sum("100 + (0 - 7) / (0 - 2)", 103);
        sum("100 + (0 - 1) / 9999", 99);
        sum("100 + 1 / (0 - 9999)", 99);
        sum("100 + (0 - 1) / (0 - 9999)", 100);
        sum("100 + 0 / (0 - 2)", 100);
    }

    static void promise12_aQuotientBy0Is0() {
        sum("100 + 5 / 0", 100);
        sum("100 + 0 / 0", 100);
        sum("100 + (0 - 5) / 0", 100);
        sum("100 + 5 / (1 - 1)", 100);
        sum("100 + 5 / 1", 105);
        sum("100 + 9 / 0 * 3", 100);
        sum("100 + 5 / gap", 100);
    }

    static void promise12_theGreatestQuotients() {
        sum("1000 * 1000 / 1 / 1000", 1000);
        sum("(0 - 1000 * 1000) / (0 - 1) / 2000", 500);
        sum("(0 - 1000 * 1000) / 1 / 2000 + 600", 100);
    }

    static void promise12_allGoesFromTheLeftOn() {
        sum("10 - 3 - 2", 5);
        sum("10 - 3 + 2", 9);
        sum("100 / 7 / 2", 7);
        sum("2 * 7 / 3", 4);
        sum("7 / 3 * 2", 4);
        sum("100 / 10 * 10", 100);
    }

    static void promise12_productsComeAheadOfSums() {
        sum("1 + 2 * 3", 7);
        sum("(1 + 2) * 3", 9);
        sum("20 - 12 / 4", 17);
        sum("(20 - 12) / 4", 2);
        sum("2 * 3 + 4 * 5", 26);
    }

    static void promise12_minAndMaxOfLikeAndUnlikeNumbers() {
        sum("min(1, 2)", 1);
        sum("min(2, 1)", 1);
        sum("min(2, 2)", 2);
        sum("max(1, 2)", 2);
        sum("max(2, 1)", 2);
        sum("max(2, 2)", 2);
        sum("5 + min(0 - 1, 1)", 4);
        sum("5 + max(0 - 1, 0 - 2)", 4);
        sum("5 + min(9999 * 9999, 0 - 9999 * 9999) / 1000 + 1000", 5);
    }

    static void promise12_theLongestNumbers() {
        sum("0009", 9);
        sum("0000", 0);
        sum("9999 - 9998", 1);
    }

    static void promise12_sixOpenAtOnceAreWorkedOut() {
        sum("1+2*(1+2*(1+2*(1+2*(1+2*(1+2*(1))))))", 127);
        sum("min(9,max(1,min(8,max(2,min(7,max(3,4))))))", 4);
        test("1 = 2 or 1 = 1 and not [1 = 2 or 1 = 1 and not [1 = 2 or 1 = 1 and not [1 < 1 + 1 * 2]]]", false);
        test("1 = 2 or 1 = 1 and not [1 = 2 or 1 = 1 and not [1 = 2 or 1 = 1 and not [1 > 1 + 1 * 2]]]", true);
    }

    // ---- promise 12: tests

    static void promise12_lessMoreAlike() {
        test("1 < 2", true);
        test("2 < 2", false);
        test("3 < 2", false);
        test("1 > 2", false);
        test("2 > 2", false);
        test("3 > 2", true);
        test("1 = 2", false);
        test("2 = 2", true);
        test("3 = 2", false);
        test("0 - 1 < 0", true);
        test("0 - 1 > 0 - 2", true);
    }

    static void promise12_numbersHeldAtAMillionAreAlike() {
        test("9999 * 9999 = 1000 * 1000", true);
        test("9999 * 9999 = 1000 * 1000 - 1", false);
        test("0 - 9999 * 9999 = 0 - 1000 * 1000", true);
    }

    static void promise12_andComesAheadOfOr() {
        test("all or all and not all", true);
        test("[all or all] and not all", false);
        test("not all and all or all", true);
        test("not all and [all or all]", false);
        test("not all or not all", false);
        test("not all or not all or all", true);
        test("all and all and not all", false);
        test("all and all and all", true);
    }

    static void promise12_notIsOfOneFactAlone() {
        test("not all or all", true);
        test("not [all or all]", false);
        test("not 1 = 2 and all", true);
        test("not 1 = 1", false);
        test("not 1 < 2", false);
        test("not 2 > 1", false);
        test("not 2 < 1", true);
        test("not 1 > 2", true);
        test("not all and all", false);
        test("not not all", true);
        test("not not not all", false);
        test("not not not not not not all", true);
    }

    static void promise12_noneIsReal() {
        test("real", true);
        test("not real", false);
    }

    // ---- promise 12: what the names mean

    static void promise12_ofNoneAllIs0ButWords() {
        for (String name : "gap place often own sort far".split(" ")) {
            fact(name, 0, NONE, NONE, 0);
        }
        fact("words", 0, NONE, NONE, 3);
    }

    static void promise12_wordsIs1To6() {
        SlipDrawer x = Desk.rowOf("cat");
        Desk.making(x, 0, "none words when all;");
        Desk.due("1", x.weight(0, 0, 0), 1);
        Desk.row(x, 0, 0, 0, 0, 0, 0);
        Desk.due("6", x.weight(1, 0, 0), 6);
    }

    static void promise12_gapIsHowManyPlacesOtherIsFromPlace() {
        fact("gap", 1, 0, 1, 1);
        fact("gap", 1, 0, 2, 2);
        fact("gap", 2, 1, 0, 1);
        fact("gap", 2, 2, 0, 2);
        fact("gap", 3, 0, 2, 2);
        fact("gap", 4, 1, 2, 1);
    }

    static void promise12_gapMayBe5() {
        SlipDrawer x = Desk.rowOf("ba", "ca", "da", "fa", "ga", "ha");
        Desk.making(x, 0, "early gap when all; late gap when all;");
        Desk.due("early", x.weight(0, Desk.find(x, 0, 1, 0, 5), 0), 5);
        Desk.due("late", x.weight(0, Desk.find(x, 0, 2, 5, 0), 0), 5);
    }

    static void promise12_gapIs0IfOtherIsNoPlace() {
        fact("gap", 5, 0, 0, 0);
        fact("gap", 6, 0, 4, 0);
        fact("gap", 7, 1, 3, 0);
        fact("gap", 8, 1, NONE, 0);
    }

    static void promise12_placeIsFrom0On() {
        fact("place", 1, 0, 1, 0);
        fact("place", 1, 1, 2, 1);
        fact("place", 2, 2, 0, 2);
        fact("place", 4, 0, 2, 0);
        fact("place", 5, 1, 3, 1);
        fact("place", 8, 1, NONE, 1);
    }

    static void promise12_oftenIsOfTheWordFromWhichIsTaken() {
        fact("often", 1, 0, 1, 99);
        fact("often", 2, 2, 0, 1);
        fact("often", 3, 0, 2, 30);
        fact("often", 4, 1, 2, 30);
        fact("often", 5, 0, 0, 99);
        fact("often", 6, 0, 4, 42);
        fact("often", 7, 1, 3, 1);
    }

    static void promise12_oftenOfALostOnsetIs0() {
        fact("often", 8, 0, NONE, 0);
        fact("often", 8, 1, NONE, 0);
    }

    static void promise12_ownIsOfTheWordAtPlace() {
        fact("own", 1, 0, 1, 1);
        fact("own", 2, 2, 0, 30);
        fact("own", 3, 1, 2, 99);
        fact("own", 5, 0, 0, 1);
        fact("own", 6, 0, 4, 1);
        fact("own", 8, 1, NONE, 99);
    }

    static void promise12_sortIs1IfBothAreOfOneSort() {
        fact("sort", 1, 0, 1, 1);
        fact("sort", 1, 0, 2, 0);
        fact("sort", 2, 1, 0, 1);
        fact("sort", 2, 2, 1, 0);
        fact("sort", 4, 0, 1, 1);
        fact("sort", 4, 0, 2, 0);
        fact("sort", 5, 0, 0, 1);
        fact("sort", 6, 0, 4, 1);
        fact("sort", 7, 0, 0, 1);
    }

    static void promise12_farIsThatWhichTakingTells() {
        SlipDrawer x = Desk.full();
        StringBuilder text = new StringBuilder();
        for (String kind : Model.KINDS) {
            text.append(kind).append(" far when all;");
        }
        Desk.making(x, 0, text.toString());
        for (int k = 0; k < x.takings(1); k++) {
            Desk.due("far of " + k, x.weight(1, k, 0), x.taking(1, k, 5));
        }
    }

    // ---- promise 13

    static void promise13_theRowIsThere() {
        SlipDrawer x = Desk.full();
        Desk.due("-1", x.tell(-1, 0), NONE);
        Desk.due("2", x.tell(2, 0), 3);
        Desk.due("3 of 3", x.tell(3, 0), NONE);
        Desk.due("the least", x.tell(Desk.LEAST, 0), NONE);
        Desk.due("the greatest", x.tell(Desk.MOST, 0), NONE);
    }

    static void promise13_theTakingIsThere() {
        SlipDrawer x = Desk.full();
        int many = x.takings(0);
        Desk.due("-1", x.tell(0, -1), NONE);
        Desk.due("one more", x.tell(0, many), NONE);
        Desk.due("the least", x.tell(0, Desk.LEAST), NONE);
        Desk.due("the greatest", x.tell(0, Desk.MOST), NONE);
        Desk.due("0", x.tell(0, 0), 7);
        Desk.due("the last", x.tell(0, many - 1), 6);
        Desk.due("said", Desk.said(x), "cat at");
    }

    static void promise13_whatIsRefusedLeavesAllAsItIs() {
        Desk.stays("no such row", x -> Desk.due("tell", x.tell(3, 0), NONE));
        Desk.stays("no such taking", x -> Desk.due("tell", x.tell(0, 99), NONE));
        Desk.stays("taking -1", x -> Desk.due("tell", x.tell(0, -1), NONE));
    }

    static void promise13_theSaidIsWholeAnotherOne() {
        SlipDrawer x = Desk.full();
        Desk.hear(x, "z".repeat(100));
        Desk.due("tell", x.tell(2, 0), 3);
        Desk.due("has", x.has(4), 3);
        Desk.due("said", Desk.said(x), "hat");
        Desk.due("none behind it", x.letter(3), NONE);
    }

    static void promise13_oneLetterIsTold() {
        SlipDrawer x = Desk.rowOf("ba");
        Desk.due("lost", x.tell(0, 1), 1);
        Desk.due("said", Desk.said(x), "a");
        Desk.due("a word of one letter", Desk.rowOf("a").tell(0, 0), 1);
    }

    static void promise13_aTakingWithoutAWeightIsToldToo() {
        SlipDrawer x = Desk.rowOf("cat");
        Desk.making(x, 0, "");
        Desk.due("tell", x.tell(0, 1), 2);
    }

    static void promise13_theTapeStays() {
        SlipDrawer x = Desk.full();
        x.tell(0, 0);
        Desk.due("end", x.end(4), true);
    }

    // ---- promise 14

    static void promise14_theRowIsThere() {
        SlipDrawer x = Desk.full();
        Desk.due("-1", x.say(-1, 0, 1), NONE);
        Desk.due("2", x.say(2, 0, 1) >= 0, true);
        Desk.due("3 of 3", x.say(3, 0, 1), NONE);
        Desk.due("the least", x.say(Desk.LEAST, 0, 1), NONE);
        Desk.due("the greatest", x.say(Desk.MOST, 0, 1), NONE);
    }

    static void promise14_theMakingIsThere() {
        SlipDrawer x = Desk.full();
        Desk.due("-1", x.say(0, -1, 1), NONE);
        Desk.due("0", x.say(0, 0, 1) >= 0, true);
        Desk.due("1, which is not there", x.say(0, 1, 1), NONE);
        Desk.due("4, though there is an ear", x.say(0, 4, 1), NONE);
        Desk.due("the least", x.say(0, Desk.LEAST, 1), NONE);
        Desk.due("the greatest", x.say(0, Desk.MOST, 1), NONE);
    }

    static void promise14_theSeedIsNotBelow0() {
        SlipDrawer x = Desk.full();
        Desk.due("-1", x.say(0, 0, -1), NONE);
        Desk.due("the least", x.say(0, 0, Desk.LEAST), NONE);
        Desk.due("0", x.say(0, 0, 0) >= 0, true);
        Desk.due("the greatest", x.say(0, 0, Desk.MOST) >= 0, true);
    }

    static void promise14_withoutATotalNothingIsDrawn() {
        SlipDrawer x = Desk.full();
        Desk.due("TOTAL 0", x.say(0, 3, 1), NONE);
        Desk.making(x, 3, "none 1 when all;");
        Desk.due("TOTAL 1", x.say(0, 3, 1), 0);
    }

    static void promise14_whatIsRefusedLeavesAllAsItIs() {
        Desk.stays("no such row", x -> Desk.due("say", x.say(3, 0, 1), NONE));
        Desk.stays("no such making", x -> Desk.due("say", x.say(0, 1, 1), NONE));
        Desk.stays("a seed below 0", x -> Desk.due("say", x.say(0, 0, -1), NONE));
        Desk.stays("no TOTAL", x -> Desk.due("say", x.say(0, 3, 1), NONE));
    }

    /** Seed 0: x = 12345, floor(x / 256) = 48; what is drawn with a weight of the first alone. */
    private static void drawn48(int first, int second, int want) {
        SlipDrawer x = Desk.rowOf("cat");
        Desk.making(x, 0, "none " + first + " when all; lost " + second + " when all;");
        Desk.due("48 with " + first + " and " + second, x.say(0, 0, 0), want);
        Desk.due("said", Desk.said(x), want == 0 ? "cat" : "at");
    }

    static void promise14_whatIsDrawnIsLessThanTheWeightsTogether() {
        drawn48(48, 1000, 1);
        drawn48(49, 1000, 0);
        drawn48(50, 1000, 0);
    }

    static void promise14_whatIsDrawnGoesRoundAtTotal() {
        // 48 mod 49, mod 48, mod 47
        drawn48(1, 48, 1);
        drawn48(1, 47, 0);
        drawn48(1, 46, 1);
        drawn48(2, 45, 0);
    }

    static void promise14_aTakingWithoutAWeightIsNotDrawn() {
        drawn48(0, 1, 1);
        drawn48(1, 0, 0);
        drawn48(0, 1000, 1);
    }

    static void promise14_theLastTakingIsDrawn() {
        SlipDrawer x = Desk.rowOf("ba", "ca", "da");
        Desk.making(x, 0, "none 48 when all; lost 1 when place = 2;");
        int last = x.takings(0) - 1;
        Desk.due("the last", x.say(0, 0, 0), last);
        Desk.due("said", Desk.said(x), "ba ca a");
    }

    static void promise14_theGreatestSeedGoesRoundAt2ToThe31() {
        // 1103515245 * 2147483647 + 12345 is 1043980748 mod 2 to the 31; / 256: 4078049; mod 1000: 49
        SlipDrawer x = Desk.rowOf("cat");
        Desk.making(x, 0, "none 49 when all; lost 951 when all;");
        Desk.due("not less than 49", x.say(0, 0, Desk.MOST), 1);
        Desk.making(x, 0, "none 50 when all; lost 950 when all;");
        Desk.due("less than 50", x.say(0, 0, Desk.MOST), 0);
    }

    static void promise14_seedsOneAndTwo() {
        // 1: 1103527590, / 256: 4310654, mod 1000: 654; 2: 59559187, / 256: 232653, mod 1000: 653
        SlipDrawer x = Desk.rowOf("cat");
        Desk.making(x, 0, "none 654 when all; lost 346 when all;");
        Desk.due("seed 1, not less than 654", x.say(0, 0, 1), 1);
        Desk.due("seed 2, less than 654", x.say(0, 0, 2), 0);
        Desk.making(x, 0, "none 655 when all; lost 345 when all;");
        Desk.due("seed 1, less than 655", x.say(0, 0, 1), 0);
        Desk.making(x, 0, "none 653 when all; lost 347 when all;");
        Desk.due("seed 2, not less than 653", x.say(0, 0, 2), 1);
    }

    static void promise14_theSameSeedDrawsTheSame() {
        SlipDrawer x = Desk.full();
        int first = x.say(1, 0, 77);
        x.say(1, 0, 78);
        Desk.due("again", x.say(1, 0, 77), first);
    }

    // ---- promise 15

    static void promise15_1To100BytesAreHeard() {
        SlipDrawer x = new SlipDrawer();
        Desk.due("0", Desk.hear(x, ""), false);
        Desk.due("1", Desk.hear(x, "a"), true);
        Desk.due("1 of them", x.has(4), 1);
        Desk.due("100", Desk.hear(x, "b".repeat(100)), true);
        Desk.due("100 of them", x.has(4), 100);
        Desk.due("101", Desk.hear(x, "c".repeat(101)), false);
        Desk.due("2100", Desk.hear(x, "c".repeat(2100)), false);
        Desk.due("100 of them still", Desk.said(x), "b".repeat(100));
    }

    static void promise15_lettersAndBlanksAreHeard() {
        for (int c = 0; c < 256; c++) {
            if (c != 10) {
                boolean fits = c >= 'a' && c <= 'z' || c == 32;
                SlipDrawer x = new SlipDrawer();
                Desk.due("byte " + c, Desk.hear(x, "a" + (char) c), fits);
                Desk.due("byte " + c + " is said", x.letter(1), fits ? c : NONE);
            }
        }
    }

    static void promise15_eachByteIsALetterOrABlank() {
        SlipDrawer x = new SlipDrawer();
        Desk.due("the first", Desk.hear(x, "1" + "a".repeat(99)), false);
        Desk.due("the last", Desk.hear(x, "a".repeat(99) + "1"), false);
        Desk.due("the middle", Desk.hear(x, "a".repeat(50) + "." + "a".repeat(49)), false);
        Desk.due("none", x.has(4), 0);
    }

    static void promise15_blanksAloneAreHeard() {
        SlipDrawer x = new SlipDrawer();
        Desk.due("one", Desk.hear(x, " "), true);
        Desk.due("a hundred", Desk.hear(x, " ".repeat(100)), true);
        Desk.due("all of them", Desk.said(x), " ".repeat(100));
    }

    static void promise15_aRefusedHearEmptiesTheTapeAndChangesNothing() {
        Desk.emptiesTape("another byte", x -> Desk.due("hear", Desk.hear(x, "a1"), false));
        Desk.emptiesTape("none", x -> Desk.due("hear", Desk.hear(x, ""), false));
        Desk.emptiesTape("101", x -> Desk.due("hear", Desk.hear(x, "a".repeat(101)), false));
    }

    static void promise15_whatIsHeardEmptiesTheTape() {
        SlipDrawer x = Desk.full();
        Desk.due("hear", x.hear(), true);
        Desk.due("said", Desk.said(x), "tape");
        Desk.due("end", x.end(1), false);
        Desk.due("hear again", x.hear(), false);
        Desk.due("said still", Desk.said(x), "tape");
    }

    static void promise15_aShorterOneIsWholeAnotherOne() {
        SlipDrawer x = new SlipDrawer();
        Desk.hear(x, "a".repeat(100));
        Desk.hear(x, "b");
        Desk.due("said", Desk.said(x), "b");
    }

    // ---- promise 16

    static void promise16_theByteIsThere() {
        SlipDrawer x = Desk.full();
        Desk.due("-1", x.letter(-1), NONE);
        Desk.due("0", x.letter(0), 'h');
        Desk.due("2", x.letter(2), 't');
        Desk.due("3 of 3", x.letter(3), NONE);
        Desk.due("the least", x.letter(Desk.LEAST), NONE);
        Desk.due("the greatest", x.letter(Desk.MOST), NONE);
    }

    static void promise16_theHundredthByteIsTheLast() {
        SlipDrawer x = new SlipDrawer();
        Desk.hear(x, "a".repeat(99) + "z");
        Desk.due("99", x.letter(99), 'z');
        Desk.due("100", x.letter(100), NONE);
    }

    static void promise16_aBlankIs32() {
        SlipDrawer x = new SlipDrawer();
        Desk.hear(x, "a b");
        Desk.due("heard", x.letter(1), 32);
        SlipDrawer y = Desk.rowOf("a", "b");
        y.tell(0, 0);
        Desk.due("told", y.letter(1), 32);
    }

    static void promise16_withNothingSaidThereIsNoByte() {
        Desk.due("0", new SlipDrawer().letter(0), NONE);
    }

    static void promise16_askingChangesNothing() {
        Desk.stays("letter", x -> {
            for (int k = -1; k <= 4; k++) {
                x.letter(k);
            }
        });
    }
}
