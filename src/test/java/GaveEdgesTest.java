/** Boundaries of promises 17 to 22: which takings, rows and makings could have given what was said. */
public final class GaveEdgesTest {
    private static final int NONE = Desk.NONE;

    public static void main(String[] args) {
        Desk.runAll(GaveEdgesTest.class);
    }

    /** One row, cat hat, of one sort and sense, with this making; this is said. */
    private static SlipDrawer catHat(String making, String said) {
        SlipDrawer x = Desk.rowOf("cat", "hat");
        Desk.making(x, 0, making);
        if (!said.isEmpty()) {
            Desk.hear(x, said);
        }
        return x;
    }

    private static void odds(SlipDrawer x, int above, int below) {
        Desk.due("above", x.odds(0, 0, true), above);
        Desk.due("below", x.odds(0, 0, false), below);
    }

    private static void told(SlipDrawer x, int kind, int above, int below) {
        Desk.due("above of " + kind, x.told(0, 0, kind, true), above);
        Desk.due("below of " + kind, x.told(0, 0, kind, false), below);
    }

    // ---- promise 17

    static void promise17_theRowIsThere() {
        SlipDrawer x = Desk.full();
        Desk.due("-1", x.ways(-1, NONE), NONE);
        Desk.due("0", x.ways(0, NONE), 0);
        Desk.due("2", x.ways(2, NONE), 1);
        Desk.due("3 of 3", x.ways(3, NONE), NONE);
        Desk.due("the least", x.ways(Desk.LEAST, NONE), NONE);
        Desk.due("the greatest", x.ways(Desk.MOST, NONE), NONE);
    }

    static void promise17_aKindIs0To8OrNone() {
        SlipDrawer x = Desk.full();
        Desk.due("-2", x.ways(2, -2), NONE);
        Desk.due("NONE", x.ways(2, NONE), 1);
        Desk.due("0", x.ways(2, 0), 1);
        for (int kind = 1; kind <= 8; kind++) {
            Desk.due("kind " + kind, x.ways(2, kind), 0);
        }
        Desk.due("9", x.ways(2, 9), NONE);
        Desk.due("the least", x.ways(2, Desk.LEAST), NONE);
        Desk.due("the greatest", x.ways(2, Desk.MOST), NONE);
    }

    static void promise17_eachKindIsAWayByItself() {
        // cat hat: hat hat by early, near, sense; hat cat by swap, trade; cat cat by late, near, sense
        SlipDrawer x = catHat("", "hat hat");
        int[] want = {0, 1, 0, 0, 0, 0, 1, 1, 0};
        for (int kind = 0; kind <= 8; kind++) {
            Desk.due("hat hat by " + kind, x.ways(0, kind), want[kind]);
        }
        Desk.due("hat hat", x.ways(0, NONE), 3);
        Desk.hear(x, "hat cat");
        Desk.due("by swap", x.ways(0, 3), 1);
        Desk.due("by trade", x.ways(0, 4), 1);
        Desk.due("hat cat", x.ways(0, NONE), 2);
        Desk.hear(x, "cat at");
        Desk.due("by lost", x.ways(0, 8), 1);
        Desk.due("cat at", x.ways(0, NONE), 1);
    }

    static void promise17_oneKindMayHaveSeveralWays() {
        SlipDrawer x = new SlipDrawer();
        Desk.word(x, "cat");
        Desk.word(x, "hot");
        Desk.row(x, 0, 1, 1);
        Desk.hear(x, "hat hot hot");
        Desk.due("early", x.ways(0, 1), 2);
        Desk.due("all", x.ways(0, NONE), 2);
    }

    static void promise17_withNothingSaidThereAreNoWays() {
        SlipDrawer x = catHat("", "");
        Desk.due("any", x.ways(0, NONE), 0);
        Desk.due("none", x.ways(0, 0), 0);
    }

    static void promise17_theSaidIsLikeTheWholeToTheByte() {
        SlipDrawer x = catHat("", "cat hat");
        Desk.due("it", x.ways(0, NONE), 1);
        String[] others = {"cat ha", "cat hats", "at hat", " cat hat", "cat hat ", "cat  hat", "cathat", "cat", "cat "};
        for (String other : others) {
            Desk.hear(x, other);
            Desk.due("'" + other + "'", x.ways(0, NONE), other.equals("at hat") ? 1 : 0);
        }
        Desk.hear(x, "cat hat" + "z".repeat(93));
        Desk.due("100 letters and blanks", x.ways(0, NONE), 0);
    }

    // The class sorts out by a number in base 37 (mod 2 to the 64); these have like numbers.

    static void promise17_anotherTextOfTheSameNumberIsNotSaid() {
        SlipDrawer x = catHat("none 1 when all;", "nmnnnonnppnnlomlrlonlm");
        Desk.due("ways", x.ways(0, NONE), 0);
        odds(x, 0, 1);
    }

    static void promise17_twoTakingsOfTheSameNumberAreTwo() {
        SlipDrawer x = Desk.rowOf("aaaaaaaa", "zaaaaaaa");
        Desk.word(x, "fgdfdccc");
        Desk.word(x, "ubceakcg");
        Desk.hear(x, "fgdfdccc zaaaaaaa");
        Desk.due("sense at 0", x.ways(0, 7), 1);
        Desk.hear(x, "aaaaaaaa ubceakcg");
        Desk.due("sense at 1", x.ways(0, 7), 1);
        Desk.making(x, 0, "sense 1 when place = 0 and far = 8; sense 2 when place = 1 and far = 7; none 4 when all;");
        odds(x, 2, 7);
        Desk.hear(x, "fgdfdccc zaaaaaaa");
        odds(x, 1, 7);
    }

    static void promise17_aTakingWithoutAWeightIsAWayToo() {
        SlipDrawer x = catHat("none 1 when all;", "cat at");
        Desk.due("lost", x.ways(0, 8), 1);
    }

    static void promise17_aWordThatComesLaterOpensAWay() {
        SlipDrawer x = catHat("", "cot hat");
        Desk.due("ahead", x.ways(0, NONE), 0);
        Desk.word(x, "cot", 0, 5, 1);
        Desk.due("behind", x.ways(0, NONE), 1);
    }

    static void promise17_askingChangesNothing() {
        Desk.stays("ways", x -> {
            for (int kind = -2; kind <= 9; kind++) {
                x.ways(0, kind);
                x.ways(3, kind);
            }
        });
    }

    // ---- promise 18

    static void promise18_theRowIsThere() {
        SlipDrawer x = Desk.full();
        Desk.due("-1", x.odds(-1, 0, true), NONE);
        Desk.due("2", x.odds(2, 0, true) > 0, true);
        Desk.due("3 of 3", x.odds(3, 0, true), NONE);
        Desk.due("3 of 3, below", x.odds(3, 0, false), NONE);
        Desk.due("the least", x.odds(Desk.LEAST, 0, true), NONE);
        Desk.due("the greatest", x.odds(Desk.MOST, 0, false), NONE);
    }

    static void promise18_theMakingIsThere() {
        SlipDrawer x = Desk.full();
        Desk.due("-1", x.odds(2, -1, true), NONE);
        Desk.due("0", x.odds(2, 0, true) > 0, true);
        Desk.due("1, which is not there", x.odds(2, 1, true), NONE);
        Desk.due("2", x.odds(2, 2, true) > 0, true);
        Desk.due("4, though there is an ear", x.odds(2, 4, true), NONE);
        Desk.due("the least", x.odds(2, Desk.LEAST, true), NONE);
        Desk.due("the greatest", x.odds(2, Desk.MOST, true), NONE);
    }

    static void promise18_withoutATotalThereAreNoOdds() {
        odds(catHat("none 0 when all;", "cat hat"), NONE, NONE);
        odds(catHat("", "cat hat"), NONE, NONE);
        odds(catHat("none 1 when all;", "cat hat"), 1, 1);
    }

    static void promise18_withoutATotalThereAreNoOddsOfWhatCantBeSaid() {
        odds(catHat("", "zoo"), NONE, NONE);
        odds(catHat("none 1 when all;", "zoo"), 0, 1);
    }

    static void promise18_oddsOf0Are0Through1() {
        odds(catHat("none 7 when all;", "hat hat"), 0, 1);
    }

    static void promise18_oddsOfAllAre1Through1() {
        odds(catHat("none 1000 when all;", "cat hat"), 1, 1);
    }

    static void promise18_oddsAreInLowestTerms() {
        odds(catHat("none 6 when all; lost 2 when place = 0;", "cat hat"), 3, 4);
        odds(catHat("none 500 when all; trade 1000 when all;", "cat hat"), 1, 3);
        odds(catHat("none 999 when all; trade 1000 when all;", "cat hat"), 999, 1999);
        odds(catHat("none 1 when all; trade 1000 when all;", "cat hat"), 1, 1001);
    }

    static void promise18_theWeightsOfAllWaysCountTogether() {
        // hat hat: early 1, near 2, sense 3 of 4 + 1 + 2 * 2 + 2 * 3
        odds(catHat("none 4 when all; early 1 when all; near 2 when all; sense 3 when all;", "hat hat"), 2, 5);
    }

    static void promise18_theGreatestTotalIsBelow() {
        SlipDrawer x = new SlipDrawer();
        for (int i = 0; i < 30; i++) {
            Desk.word(x, "" + "bcdfgh".charAt(i % 6) + "aeiou".charAt(i / 6), 0, 0, 1);
        }
        Desk.row(x, 0, 1, 2, 3, 4, 5);
        StringBuilder text = new StringBuilder("none 997 when all;");
        for (int kind = 1; kind <= 8; kind++) {
            text.append(Model.KINDS[kind]).append(" 1000 when all;");
        }
        Desk.making(x, 0, text.toString());
        x.tell(0, 0);
        odds(x, 997, 438997);
    }

    static void promise18_askingChangesNothing() {
        Desk.stays("odds", x -> {
            x.odds(0, 0, true);
            x.odds(0, 3, true);
            x.odds(3, 0, false);
        });
    }

    // ---- promise 19

    static void promise19_theRowIsThere() {
        SlipDrawer x = Desk.full();
        Desk.due("-1", x.told(-1, 0, 0, true), NONE);
        Desk.due("2", x.told(2, 0, 0, true), 1);
        Desk.due("3 of 3", x.told(3, 0, 0, true), NONE);
        Desk.due("the least", x.told(Desk.LEAST, 0, 0, true), NONE);
        Desk.due("the greatest", x.told(Desk.MOST, 0, 0, true), NONE);
    }

    static void promise19_theMakingIsThere() {
        SlipDrawer x = Desk.full();
        Desk.due("-1", x.told(2, -1, 0, true), NONE);
        Desk.due("0", x.told(2, 0, 0, true), 1);
        Desk.due("1, which is not there", x.told(2, 1, 0, true), NONE);
        Desk.due("4, though there is an ear", x.told(2, 4, 0, true), NONE);
        Desk.due("the least", x.told(2, Desk.LEAST, 0, true), NONE);
        Desk.due("the greatest", x.told(2, Desk.MOST, 0, true), NONE);
    }

    static void promise19_aKindIs0To8() {
        SlipDrawer x = Desk.full();
        Desk.due("-1", x.told(2, 0, -1, true), NONE);
        Desk.due("-1, below", x.told(2, 0, -1, false), NONE);
        Desk.due("0", x.told(2, 0, 0, true), 1);
        Desk.due("8", x.told(2, 0, 8, true), 0);
        Desk.due("9", x.told(2, 0, 9, true), NONE);
        Desk.due("the least", x.told(2, 0, Desk.LEAST, true), NONE);
        Desk.due("the greatest", x.told(2, 0, Desk.MOST, true), NONE);
    }

    static void promise19_withoutATotalNothingIsTold() {
        told(catHat("", "cat hat"), 0, NONE, NONE);
    }

    static void promise19_withOddsOf0NothingIsTold() {
        told(catHat("none 1 when all;", "hat cat"), 3, NONE, NONE);
        told(catHat("none 1 when all; swap 1 when all;", "hat cat"), 3, 1, 1);
    }

    static void promise19_whatCantBeSaidIsNotTold() {
        told(catHat("none 1 when all;", "zoo"), 0, NONE, NONE);
        told(catHat("none 1 when all;", ""), 0, NONE, NONE);
    }

    static void promise19_aKindWithoutAWeightIs0Through1() {
        told(catHat("swap 1 when all;", "hat cat"), 4, 0, 1);
        told(catHat("swap 1 when all;", "hat cat"), 0, 0, 1);
    }

    static void promise19_aKindThatIsTheOnlyOneIs1Through1() {
        told(catHat("swap 7 when all; none 5 when all;", "hat cat"), 3, 1, 1);
    }

    static void promise19_oddsAreInLowestTerms() {
        SlipDrawer x = catHat("early 10 when all; near 20 when all; sense 30 when all; none 9 when all;", "hat hat");
        told(x, 1, 1, 6);
        told(x, 6, 1, 3);
        told(x, 7, 1, 2);
        told(x, 0, 0, 1);
    }

    static void promise19_takingsOfOneKindCountTogether() {
        SlipDrawer x = new SlipDrawer();
        Desk.word(x, "cat");
        Desk.word(x, "hot");
        Desk.word(x, "hat", 0, 3, 1);
        Desk.row(x, 0, 1, 1);
        Desk.making(x, 0, "early gap when all; near 5 when all;");
        Desk.hear(x, "hat hot hot");
        told(x, 1, 3, 8);
        told(x, 6, 5, 8);
    }

    static void promise19_askingChangesNothing() {
        Desk.stays("told", x -> {
            x.told(2, 0, 0, true);
            x.told(2, 0, 9, false);
            x.told(3, 0, 0, false);
        });
    }

    // ---- promise 20

    static void promise20_theMakingIsThereOrNone() {
        SlipDrawer x = Desk.full();
        Desk.due("-2", x.meant(-2), NONE);
        Desk.due("NONE", x.meant(NONE), 4);
        Desk.due("0", x.meant(0), 4);
        Desk.due("1, which is not there", x.meant(1), NONE);
        Desk.due("2", x.meant(2), 4);
        Desk.due("3, which gives nothing", x.meant(3), 0);
        Desk.due("4, though there is an ear", x.meant(4), NONE);
        Desk.due("the least", x.meant(Desk.LEAST), NONE);
        Desk.due("the greatest", x.meant(Desk.MOST), NONE);
    }

    static void promise20_twelveRowsAreTwelveBits() {
        SlipDrawer x = Desk.rowOf("cat");
        for (int i = 1; i < 12; i++) {
            Desk.row(x, 0);
        }
        Desk.making(x, 0, "none 1 when all;");
        Desk.hear(x, "cat");
        Desk.due("by any weight", x.meant(NONE), 4095);
        Desk.due("by the making", x.meant(0), 4095);
    }

    static void promise20_theLastRowAloneIsTheTwelfthBit() {
        SlipDrawer x = Desk.rowOf("cat");
        Desk.word(x, "dog", 1, 1, 1);
        for (int i = 1; i < 11; i++) {
            Desk.row(x, 0);
        }
        Desk.row(x, 1);
        Desk.making(x, 0, "none 1 when all;");
        Desk.hear(x, "dog");
        Desk.due("by any weight", x.meant(NONE), 2048);
        Desk.due("by the making", x.meant(0), 2048);
    }

    static void promise20_aTakingWithoutAWeightDoesNotCountByAMaking() {
        SlipDrawer x = catHat("none 1 when all; lost 0 when all;", "at hat");
        Desk.due("by the making", x.meant(0), 0);
        Desk.due("by any weight", x.meant(NONE), 1);
        Desk.making(x, 0, "none 1 when all; lost 1 when all;");
        Desk.due("with a weight of 1", x.meant(0), 1);
    }

    static void promise20_oneWayOfSeveralWithAWeightIsEnough() {
        Desk.due("sense alone", catHat("sense 1 when all;", "hat hat").meant(0), 1);
        Desk.due("near alone", catHat("near 1 when all;", "hat hat").meant(0), 1);
        Desk.due("early alone", catHat("early 1 when all;", "hat hat").meant(0), 1);
        Desk.due("none of them", catHat("late 1 when all;", "hat hat").meant(0), 0);
    }

    static void promise20_withNothingSaidNoRowIsMeant() {
        SlipDrawer x = catHat("none 1 when all;", "");
        Desk.due("by any weight", x.meant(NONE), 0);
        Desk.due("by the making", x.meant(0), 0);
    }

    static void promise20_withoutRowsNoneIsMeant() {
        SlipDrawer x = new SlipDrawer();
        Desk.making(x, 0, "none 1 when all;");
        Desk.hear(x, "cat");
        Desk.due("by any weight", x.meant(NONE), 0);
        Desk.due("by the making", x.meant(0), 0);
    }

    static void promise20_withoutAMakingAnyWeightIsAskedFor() {
        SlipDrawer x = Desk.rowOf("cat");
        Desk.hear(x, "at");
        Desk.due("by any weight", x.meant(NONE), 1);
        Desk.due("by making 0", x.meant(0), NONE);
    }

    static void promise20_askingChangesNothing() {
        Desk.stays("meant", x -> {
            for (int making = -2; making <= 4; making++) {
                x.meant(making);
            }
        });
    }

    // ---- promise 21

    static void promise21_theRowIsThere() {
        SlipDrawer x = Desk.full();
        Desk.due("-1", x.mostly(-1, 0), NONE);
        Desk.due("2", x.mostly(2, 0), 0);
        Desk.due("3 of 3", x.mostly(3, 0), NONE);
        Desk.due("the least", x.mostly(Desk.LEAST, 0), NONE);
        Desk.due("the greatest", x.mostly(Desk.MOST, 0), NONE);
    }

    static void promise21_theMakingIsThere() {
        SlipDrawer x = Desk.full();
        Desk.due("-1", x.mostly(0, -1), NONE);
        Desk.due("0", x.mostly(0, 0), 0);
        Desk.due("1, which is not there", x.mostly(0, 1), NONE);
        Desk.due("4, though there is an ear", x.mostly(0, 4), NONE);
        Desk.due("the least", x.mostly(0, Desk.LEAST), NONE);
        Desk.due("the greatest", x.mostly(0, Desk.MOST), NONE);
    }

    static void promise21_withoutATotalThereIsNone() {
        Desk.due("TOTAL 0", catHat("none 0 when all;", "").mostly(0, 0), NONE);
        Desk.due("TOTAL 1", catHat("none 1 when all;", "").mostly(0, 0), 0);
    }

    static void promise21_theFirstOfLikeOnes() {
        SlipDrawer x = catHat("late 3 when all; swap 3 when all; trade 3 when all;", "");
        Desk.due("late", x.mostly(0, 0), Desk.find(x, 0, 2, 1, 0));
        Desk.making(x, 0, "late 3 when all; swap 4 when all; trade 4 when all;");
        Desk.due("swap", x.mostly(0, 0), Desk.find(x, 0, 3, 0, 1));
        Desk.making(x, 0, "late 3 when all; swap 4 when all; trade 5 when all;");
        Desk.due("trade", x.mostly(0, 0), Desk.find(x, 0, 4, 0, 1));
    }

    static void promise21_theFirstAndTheLastMayBeIt() {
        SlipDrawer x = catHat("none 2 when all; lost 1 when all;", "");
        Desk.due("the first", x.mostly(0, 0), 0);
        Desk.making(x, 0, "none 1 when all; lost 2 when place = 1;");
        Desk.due("the last", x.mostly(0, 0), x.takings(0) - 1);
    }

    static void promise21_weightsAbove1000AreAlike() {
        SlipDrawer x = catHat("early 1001 when all; late 9999 when all;", "");
        Desk.due("early", x.mostly(0, 0), 1);
    }

    static void promise21_askingChangesNothing() {
        Desk.stays("mostly", x -> {
            x.mostly(0, 0);
            x.mostly(0, 3);
            x.mostly(3, 0);
        });
    }

    // ---- promise 22

    static void promise22_theMakingIsThere() {
        SlipDrawer x = Desk.full();
        Desk.due("-1", x.never(-1, 0), NONE);
        Desk.due("0", x.never(0, 0), 0);
        Desk.due("1, which is not there", x.never(1, 0), NONE);
        Desk.due("3", x.never(3, 0), 1);
        Desk.due("4, though there is an ear", x.never(4, 0), NONE);
        Desk.due("the least", x.never(Desk.LEAST, 0), NONE);
        Desk.due("the greatest", x.never(Desk.MOST, 0), NONE);
    }

    static void promise22_aKindIs0To8() {
        SlipDrawer x = Desk.full();
        Desk.due("-1", x.never(2, -1), NONE);
        Desk.due("0", x.never(2, 0), 0);
        Desk.due("8", x.never(2, 8), 0);
        Desk.due("9", x.never(2, 9), NONE);
        Desk.due("the least", x.never(2, Desk.LEAST), NONE);
        Desk.due("the greatest", x.never(2, Desk.MOST), NONE);
    }

    static void promise22_aWeightOf1IsOne() {
        SlipDrawer x = catHat("lost 0 when all; swap 1 when all; trade 0 - 1 when all;", "");
        Desk.due("0", x.never(0, 8), 1);
        Desk.due("1", x.never(0, 3), 0);
        Desk.due("below 0", x.never(0, 4), 1);
    }

    static void promise22_oneRowOfAllIsEnough() {
        SlipDrawer x = Desk.rowOf("cat");
        Desk.word(x, "dog", 1, 1, 1);
        for (int i = 1; i < 11; i++) {
            Desk.row(x, 0);
        }
        Desk.making(x, 0, "trade 1 when all;");
        Desk.due("no trade in rows of one", x.never(0, 4), 1);
        Desk.row(x, 0, 1);
        Desk.due("one in the twelfth", x.never(0, 4), 0);
    }

    static void promise22_aKindThatNoRowHasIsNeverGiven() {
        SlipDrawer x = Desk.rowOf("sh");
        Desk.making(x, 0, "lost 1 when all; none 1 when all;");
        Desk.due("lost", x.never(0, 8), 1);
        Desk.due("none", x.never(0, 0), 0);
    }

    static void promise22_withoutRowsNothingIsGiven() {
        SlipDrawer x = new SlipDrawer();
        Desk.making(x, 0, "none 1 when all;");
        for (int kind = 0; kind <= 8; kind++) {
            Desk.due("kind " + kind, x.never(0, kind), 1);
        }
    }

    static void promise22_askingChangesNothing() {
        Desk.stays("never", x -> {
            for (int kind = -1; kind <= 9; kind++) {
                x.never(0, kind);
                x.never(1, kind);
            }
        });
    }
}
