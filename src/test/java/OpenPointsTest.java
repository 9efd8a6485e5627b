/** What the class does where NOTES.md says that the document leaves something open. */
public final class OpenPointsTest {
    private static final int NONE = Desk.NONE;

    public static void main(String[] args) {
        Desk.runAll(OpenPointsTest.class);
    }

    private static void faulty(String text, int fault, int place) {
        SlipDrawer x = new SlipDrawer();
        Desk.due(text, Desk.making(x, 0, text), NONE);
        Desk.due("fault of " + text, x.fault(0), fault);
        Desk.due("place in " + text, x.fault(1), place);
    }

    // ---- the tape goes, whatever the call that takes it answers

    static void promise04_theTapeGoesWithARefusedWord() {
        SlipDrawer x = new SlipDrawer();
        Desk.due("word", Desk.word(x, "cat", 9, 9, 9), NONE);
        Desk.due("tape", x.end(1), false);
    }

    static void promise07_theTapeGoesWithAFaultAndWithMinus2() {
        SlipDrawer x = new SlipDrawer();
        Desk.due("fault", Desk.making(x, 0, "none"), NONE);
        Desk.due("tape", x.end(1), false);
        Desk.due("-2", Desk.making(x, 4, "none"), -2);
        Desk.due("tape again", x.end(1), false);
    }

    static void promise08_theTapeGoesWithAFault() {
        SlipDrawer x = new SlipDrawer();
        Desk.due("fault", Desk.ear(x, "none"), NONE);
        Desk.due("tape", x.end(1), false);
    }

    static void promise15_theTapeGoesWithARefusedHear() {
        SlipDrawer x = new SlipDrawer();
        Desk.due("hear", Desk.hear(x, "A"), false);
        Desk.due("tape", x.end(1), false);
    }

    static void promise38_theTapeGoesWithWhatIsNoImage() {
        SlipDrawer x = new SlipDrawer();
        Desk.tape(x, "no image");
        Desk.due("on", x.on(), false);
        Desk.due("tape", x.end(1), false);
    }

    // ---- blanks of the said are 32 alone

    static void promise15_aLineEndIsNoBlankOfTheSaid() {
        SlipDrawer x = new SlipDrawer();
        Desk.due("10", Desk.hear(x, "a\nb"), false);
        Desk.due("32", Desk.hear(x, "a b"), true);
    }

    static void promise38_aLineEndIsNoBlankOfANote() {
        SlipDrawer x = Desk.rowOf("cat");
        Desk.due("10", Desk.on(x, "\1\0\3a\nb"), false);
        Desk.due("32", Desk.on(x, "\1\0\3a b"), true);
    }

    static void promise15_theSaidStaysWithARefusedHear() {
        SlipDrawer x = new SlipDrawer();
        Desk.hear(x, "cat");
        Desk.due("hear", Desk.hear(x, "1"), false);
        Desk.due("said", Desk.said(x), "cat");
    }

    // ---- words and numbers in texts

    static void promise09_aNumberThatClingsToAWordIsTheFault() {
        faulty("none5 when all;", 1, 4);
        faulty("none 1 when gap5 = 1;", 1, 15);
    }

    static void promise09_aWordThatClingsToANumberIsTheFault() {
        faulty("none 5when all;", 1, 6);
        faulty("none 1234when all;", 1, 9);
    }

    static void promise09_aWordCutByTheTextsEndIsTheFault() {
        faulty("no", 1, 0);
        faulty("none 1 wh", 1, 7);
        faulty("none 1 when al", 1, 12);
    }

    static void promise09_fiveDigitsOutOfPlaceAreAFaultAtTheFirst() {
        faulty("none 1 23456", 1, 7);
    }

    static void promise09_theRoundBracketOfMinAndMaxIsOpenToo() {
        SlipDrawer x = new SlipDrawer();
        Desk.due("six", Desk.making(x, 0, "none min(max(min(max(min(max(1,2),3),4),5),6),7) when all;"), 1);
        faulty("none min(max(min(max(min(max(min(1,2),3),4),5),6),7),8) when all;", 4, 32);
        faulty("none ((((((min(1,2))))))) when all;", 4, 14);
        faulty("none min(1,((((((2))))))) when all;", 4, 16);
    }

    static void promise09_theWordsMinAndMaxMayStandWhereTheirBracketMayNot() {
        faulty("none ((((((min", 1, 14);
        faulty("none ((((((min 1", 1, 15);
    }

    // ---- takings

    static void promise11_aWordMayBeSaidAsNothing() {
        SlipDrawer x = Desk.rowOf("sh", "oh");
        Desk.row(x, 0, 1, 0);
        Desk.due("early", Desk.takings(x, 1, 1), "1 0 1 ' oh sh'; 1 1 2 'sh shoh sh';");
        Desk.due("late", Desk.takings(x, 1, 2), "2 1 0 'sh shoh sh'; 2 2 1 'sh oh ';");
        Desk.due("swap", Desk.takings(x, 1, 3), "3 0 1 ' shoh sh'; 3 1 2 'sh shoh ';");
    }

    static void promise17_whatBeginsOrEndsWithABlankHasWays() {
        SlipDrawer x = Desk.rowOf("sh", "oh");
        Desk.hear(x, " oh");
        Desk.due("early", x.ways(0, 1), 1);
        Desk.hear(x, "oh");
        Desk.due("without the blank", x.ways(0, NONE), 0);
    }

    static void promise11_theSameBlendOfTwoWordsIsTwoTakings() {
        SlipDrawer x = Desk.rowOf("cat");
        Desk.word(x, "dog");
        Desk.word(x, "fog");
        Desk.due("blends", Desk.takings(x, 0, 5), "5 0 1 'cog'; 5 0 2 'cog';");
    }

    static void promise12_sortOfALostOnsetIs0() {
        SlipDrawer x = Desk.rowOf("cat");
        Desk.making(x, 0, "lost 1 + sort when all;");
        Desk.due("lost", x.weight(0, 1, 0), 1);
    }

    // ---- nothing said

    static void promise18_theOddsOfNothingSaidAre0Through1() {
        SlipDrawer x = Desk.rowOf("cat");
        Desk.making(x, 0, "none 5 when all;");
        Desk.due("above", x.odds(0, 0, true), 0);
        Desk.due("below", x.odds(0, 0, false), 1);
    }

    static void promise17_nothingSaidHasNoWays() {
        SlipDrawer x = Desk.rowOf("cat");
        Desk.due("any", x.ways(0, NONE), 0);
        Desk.due("none", x.ways(0, 0), 0);
    }

    static void promise19_ofNothingSaidNothingIsTold() {
        SlipDrawer x = Desk.rowOf("cat");
        Desk.making(x, 0, "none 5 when all;");
        Desk.due("above", x.told(0, 0, 0, true), NONE);
    }

    static void promise20_withNothingSaidNoRowIsMeant() {
        SlipDrawer x = Desk.rowOf("cat");
        Desk.due("any", x.meant(NONE), 0);
    }

    static void promise20_anyWeightMayBe0() {
        SlipDrawer x = Desk.rowOf("cat");
        Desk.making(x, 0, "");
        Desk.hear(x, "at");
        Desk.due("any", x.meant(NONE), 1);
        Desk.due("by the making", x.meant(0), 0);
    }

    // ---- parting makings

    static void promise31_apartIsRoundedDownOnce() {
        SlipDrawer x = Desk.rowOf("cat", "hat");
        Desk.making(x, 0, "none 1 when all;");
        Desk.making(x, 1, "none 1 when all; trade 1 when all; lost 1 when place = 0;");
        // 2/3 + 1/3 + 1/3; each rounded down they were 1333332 together
        Desk.due("4/3", x.apart(0, 0, 1), 1333333);
    }

    static void promise32_theNextRowAddsRoundedNumbers() {
        SlipDrawer x = Desk.rowOf("cat", "hat");
        Desk.row(x, 0);
        Desk.making(x, 0, "none 707 when words = 2; trade 708 when all; none 706 when all; lost 707 when words = 1;");
        Desk.making(x, 1, "none 708 when words = 2; trade 709 when all; none 707 when all; lost 708 when words = 1;");
        Desk.making(x, 2, "none 709 when words = 2; trade 710 when all; none 707 when all; lost 708 when words = 1;");
        // row 0: 0.99, 0.99 and 1.99 millionths; row 1: 1.0003 twice and 0
        int[][] want = {{0, 0, 1}, {1, 0, 1}};
        for (int row = 0; row < 2; row++) {
            Desk.due("0 and 1 on " + row, x.apart(row, 0, 1), want[row][0]);
            Desk.due("1 and 2 on " + row, x.apart(row, 1, 2), want[row][1]);
            Desk.due("0 and 2 on " + row, x.apart(row, 0, 2), want[row][2]);
        }
        Desk.due("next", x.next(), 1);
    }

    static void promise34_aTakingWithTwoWordsOfASenseCountsOnce() {
        SlipDrawer x = Desk.rowOf("cat", "dog");
        Desk.making(x, 0, "trade 1 when all;");
        Desk.due("above", x.wish(0, 0, 0, true), 1);
        Desk.due("below", x.wish(0, 0, 0, false), 1);
    }
}
