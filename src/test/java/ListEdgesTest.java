/** Boundaries of promises 23 to 30: the list of what was heard, and what it tells. */
public final class ListEdgesTest {
    private static final int NONE = Desk.NONE;

    public static void main(String[] args) {
        Desk.runAll(ListEdgesTest.class);
    }

    /** A full list: the notes of the full drawer, and hat of row 2 behind them. */
    private static SlipDrawer twentyNotes() {
        SlipDrawer x = Desk.full();
        for (int i = 2; i < 20; i++) {
            x.note(2);
        }
        return x;
    }

    /** Rows cat hat and hat cat, of one sort and sense; making 0 as told. */
    private static SlipDrawer catHat(String making) {
        SlipDrawer x = Desk.rowOf("cat", "hat");
        Desk.row(x, 1, 0);
        Desk.making(x, 0, making);
        return x;
    }

    // ---- promise 23

    static void promise23_theRowIsThere() {
        SlipDrawer x = Desk.full();
        Desk.due("-1", x.note(-1), NONE);
        Desk.due("3 of 3", x.note(3), NONE);
        Desk.due("the least", x.note(Desk.LEAST), NONE);
        Desk.due("the greatest", x.note(Desk.MOST), NONE);
        Desk.due("0", x.note(0), 3);
        Desk.due("2", x.note(2), 4);
    }

    static void promise23_theTwelfthRowIsNoted() {
        SlipDrawer x = Desk.full();
        for (int i = 3; i < 12; i++) {
            Desk.row(x, 0);
        }
        Desk.due("12", x.note(12), NONE);
        Desk.due("11", x.note(11), 3);
        Desk.due("its row", x.recall(2), 11);
    }

    static void promise23_somethingIsSaid() {
        SlipDrawer x = Desk.rowOf("cat");
        Desk.due("nothing", x.note(0), NONE);
        Desk.due("no note", x.has(3), 0);
        Desk.hear(x, "a");
        Desk.due("one letter", x.note(0), 1);
    }

    static void promise23_aNoteHas1To100LettersAndBlanks() {
        SlipDrawer x = Desk.rowOf("cat");
        Desk.due("1", Desk.note(x, 0, " "), 1);
        Desk.due("100", Desk.note(x, 0, "z".repeat(100)), 2);
        x.recall(0);
        Desk.due("the 1", Desk.said(x), " ");
        x.recall(1);
        Desk.due("the 100", Desk.said(x), "z".repeat(100));
    }

    static void promise23_twentyNotesAreTakenAndNoMore() {
        SlipDrawer x = Desk.full();
        for (int i = 3; i <= 20; i++) {
            Desk.due("note " + i, x.note(0), i);
        }
        Desk.due("note 21", x.note(0), NONE);
        Desk.due("has", x.has(3), 20);
        x.undo();
        Desk.due("behind an undo", x.note(0), 20);
        Desk.due("and no more", x.note(0), NONE);
    }

    static void promise23_whatIsRefusedLeavesAllAsItIs() {
        Desk.stays("no such row", x -> Desk.due("note", x.note(3), NONE));
        Desk.stays("row -1", x -> Desk.due("note", x.note(-1), NONE));
        Desk.stays("the 21st", ListEdgesTest::twentyNotes, x -> Desk.due("note", x.note(0), NONE));
        Desk.stays("nothing said", () -> {
            SlipDrawer x = Desk.rowOf("cat");
            Desk.tape(x, "tape");
            return x;
        }, x -> Desk.due("note", x.note(0), NONE));
    }

    static void promise23_aNoteIsTakenWhetherItCanBeSaidOrNot() {
        SlipDrawer x = Desk.full();
        Desk.due("what no taking gives", Desk.note(x, 0, "zzz"), 3);
    }

    static void promise23_notesMayBeAlike() {
        SlipDrawer x = Desk.full();
        Desk.due("once", x.note(2), 3);
        Desk.due("twice", x.note(2), 4);
    }

    static void promise23_theSaidAndTheTapeStay() {
        SlipDrawer x = Desk.full();
        x.note(0);
        Desk.due("said", Desk.said(x), "hat");
        Desk.due("tape", x.end(4), true);
    }

    static void promise23_aNoteKeepsWhatWasSaidThen() {
        SlipDrawer x = Desk.full();
        x.note(2);
        Desk.hear(x, "dog");
        x.recall(2);
        Desk.due("said", Desk.said(x), "hat");
    }

    // ---- promise 24

    static void promise24_withoutNotesThereIsNoneToGo() {
        SlipDrawer x = Desk.full();
        Desk.due("the second", x.undo(), 1);
        Desk.due("the first", x.undo(), 0);
        Desk.due("none", x.undo(), NONE);
        Desk.due("none again", x.undo(), NONE);
        Desk.due("has", x.has(3), 0);
    }

    static void promise24_withoutNotesAllStays() {
        Desk.stays("undo", () -> {
            SlipDrawer x = Desk.full();
            x.undo();
            x.undo();
            return x;
        }, x -> Desk.due("undo", x.undo(), NONE));
    }

    static void promise24_the20thGoes() {
        SlipDrawer x = twentyNotes();
        Desk.due("undo", x.undo(), 19);
        Desk.due("recall 19", x.recall(19), NONE);
        Desk.due("recall 18", x.recall(18), 2);
    }

    static void promise24_theLastGoesAndTheFirstStay() {
        SlipDrawer x = Desk.full();
        x.undo();
        Desk.due("the first", x.recall(0), 0);
        Desk.due("said", Desk.said(x), "hat hat");
        Desk.due("the second", x.recall(1), NONE);
    }

    static void promise24_theSaidTheImageAndTheTapeStay() {
        SlipDrawer x = Desk.full();
        String octets = Desk.octets(x);
        x.undo();
        Desk.due("said", Desk.said(x), "hat");
        Desk.due("image", Desk.octets(x), octets);
        Desk.due("tape", x.end(4), true);
    }

    // ---- promise 25

    static void promise25_theNoteIsThere() {
        SlipDrawer x = Desk.full();
        Desk.due("-1", x.recall(-1), NONE);
        Desk.due("0", x.recall(0), 0);
        Desk.due("1", x.recall(1), 1);
        Desk.due("2 of 2", x.recall(2), NONE);
        Desk.due("the least", x.recall(Desk.LEAST), NONE);
        Desk.due("the greatest", x.recall(Desk.MOST), NONE);
    }

    static void promise25_the20thNoteIsTheLast() {
        SlipDrawer x = twentyNotes();
        Desk.due("19", x.recall(19), 2);
        Desk.due("20", x.recall(20), NONE);
    }

    static void promise25_withoutNotesThereIsNone() {
        Desk.due("0", new SlipDrawer().recall(0), NONE);
    }

    static void promise25_whatIsRefusedLeavesAllAsItIs() {
        Desk.stays("-1", x -> Desk.due("recall", x.recall(-1), NONE));
        Desk.stays("2 of 2", x -> Desk.due("recall", x.recall(2), NONE));
    }

    static void promise25_theSaidIsWholeAnotherOne() {
        SlipDrawer x = Desk.full();
        Desk.hear(x, "z".repeat(100));
        x.recall(0);
        Desk.due("said", Desk.said(x), "hat hat");
        x.recall(1);
        Desk.due("said then", Desk.said(x), "dog cat oh");
        Desk.due("notes", x.has(3), 2);
    }

    static void promise25_whatIsSaidLaterDoesNotChangeTheNote() {
        SlipDrawer x = Desk.full();
        x.recall(0);
        Desk.hear(x, "dog dog");
        x.recall(0);
        Desk.due("said", Desk.said(x), "hat hat");
    }

    // ---- promise 26

    static void promise26_theMakingIsThere() {
        SlipDrawer x = Desk.full();
        Desk.due("-1", x.thrown(-1), NONE);
        Desk.due("0", x.thrown(0), 1);
        Desk.due("1, which is not there", x.thrown(1), NONE);
        Desk.due("2", x.thrown(2), 0);
        Desk.due("3", x.thrown(3), 0);
        Desk.due("4, though there is an ear", x.thrown(4), NONE);
        Desk.due("the least", x.thrown(Desk.LEAST), NONE);
        Desk.due("the greatest", x.thrown(Desk.MOST), NONE);
    }

    static void promise26_anEmptyListThrowsNothingOut() {
        SlipDrawer x = catHat("");
        Desk.due("without notes", x.thrown(0), NONE);
        Desk.note(x, 0, "cat hat");
        Desk.due("with one", x.thrown(0), 0);
        x.undo();
        Desk.due("without it", x.thrown(0), NONE);
    }

    static void promise26_oddsOf0ThrowOutOddsOf1In1000DoNot() {
        SlipDrawer x = catHat("none 999 when all; trade 0 when all;");
        Desk.note(x, 0, "hat cat");
        Desk.due("0", x.thrown(0), 0);
        Desk.making(x, 0, "none 999 when all; trade 1 when all;");
        Desk.due("1", x.thrown(0), NONE);
    }

    static void promise26_noOddsThrowOutToo() {
        SlipDrawer x = catHat("trade 1 when all;");
        Desk.row(x, 0);
        Desk.note(x, 2, "cat");
        Desk.due("a row without a TOTAL", x.thrown(0), 0);
        Desk.making(x, 0, "none 1 when all;");
        Desk.due("with one", x.thrown(0), NONE);
    }

    static void promise26_theFirstOfSeveralNotesIsTold() {
        SlipDrawer x = catHat("none 1 when all;");
        Desk.note(x, 0, "cat hat");
        Desk.note(x, 1, "hat cat");
        Desk.due("no one", x.thrown(0), NONE);
        Desk.note(x, 0, "zoo");
        Desk.note(x, 1, "zoo");
        Desk.due("the third", x.thrown(0), 2);
        x.undo();
        Desk.due("the third still", x.thrown(0), 2);
        x.undo();
        Desk.due("no one again", x.thrown(0), NONE);
    }

    static void promise26_the20thNoteThrowsOut() {
        SlipDrawer x = catHat("none 1 when all;");
        Desk.hear(x, "cat hat");
        for (int i = 0; i < 19; i++) {
            x.note(0);
        }
        Desk.due("19 sound ones", x.thrown(0), NONE);
        x.note(1);
        Desk.due("the 20th, of another row", x.thrown(0), 19);
    }

    static void promise26_aWordThatComesLaterMayTakeItIn() {
        SlipDrawer x = catHat("near 1 when all;");
        Desk.note(x, 0, "cot hat");
        Desk.due("ahead", x.thrown(0), 0);
        Desk.word(x, "cot", 0, 9, 1);
        Desk.due("behind", x.thrown(0), NONE);
    }

    static void promise26_askingChangesNothing() {
        Desk.stays("thrown", x -> {
            for (int making = -1; making <= 4; making++) {
                x.thrown(making);
            }
        });
    }

    // ---- promise 27

    static void promise27_bothMakingsAreThere() {
        SlipDrawer x = Desk.full();
        for (int wrong : new int[] {-1, 1, 4, Desk.LEAST, Desk.MOST}) {
            Desk.due("first " + wrong, x.better(wrong, 0), NONE);
            Desk.due("second " + wrong, x.better(0, wrong), NONE);
            Desk.due("both " + wrong, x.better(wrong, wrong), NONE);
        }
        Desk.due("0 and 2", x.better(0, 2), 1);
        Desk.due("0 and 3", x.better(0, 3), 1);
        Desk.due("3 and 0", x.better(3, 0), 0);
    }

    static void promise27_withoutNotesThereAre0() {
        SlipDrawer x = catHat("none 1 when all;");
        Desk.making(x, 1, "");
        Desk.due("without", x.better(0, 1), 0);
        Desk.note(x, 0, "cat hat");
        Desk.due("with one", x.better(0, 1), 1);
    }

    static void promise27_likeOddsAreNotGreater() {
        SlipDrawer x = catHat("none 4 when all; trade 11 when all;");
        Desk.note(x, 0, "cat hat");
        Desk.making(x, 1, "none 8 when all; trade 22 when all;");
        Desk.due("4/15 and 8/30", x.better(0, 1), 0);
        Desk.due("8/30 and 4/15", x.better(1, 0), 0);
        Desk.making(x, 1, "none 8 when all; trade 21 when all;");
        Desk.due("4/15 and 8/29", x.better(0, 1), 0);
        Desk.due("8/29 and 4/15", x.better(1, 0), 1);
        Desk.making(x, 1, "none 8 when all; trade 23 when all;");
        Desk.due("4/15 and 8/31", x.better(0, 1), 1);
        Desk.due("8/31 and 4/15", x.better(1, 0), 0);
    }

    static void promise27_aMakingIsNotBetterThanItself() {
        SlipDrawer x = Desk.full();
        for (int making : new int[] {0, 2, 3}) {
            Desk.due("making " + making, x.better(making, making), 0);
        }
    }

    static void promise27_noOddsAre0() {
        SlipDrawer x = catHat("none 1 when all;");
        Desk.making(x, 1, "");
        Desk.making(x, 2, "trade 1 when all;");
        Desk.note(x, 0, "cat hat");
        Desk.due("1 above none", x.better(0, 1), 1);
        Desk.due("none above 1", x.better(1, 0), 0);
        Desk.due("0 above none", x.better(2, 1), 0);
        Desk.due("none above 0", x.better(1, 2), 0);
        Desk.due("none above none", x.better(1, 1), 0);
    }

    static void promise27_whatCantBeSaidHasOddsOf0() {
        SlipDrawer x = catHat("none 1 when all;");
        Desk.making(x, 1, "trade 1 when all;");
        Desk.note(x, 0, "zoo");
        Desk.due("0 and 1", x.better(0, 1), 0);
        Desk.due("1 and 0", x.better(1, 0), 0);
    }

    static void promise27_theGreatestTotalsAreHeldAgainstOneAnother() {
        SlipDrawer x = new SlipDrawer();
        for (int i = 0; i < 30; i++) {
            Desk.word(x, "" + "bcdfgh".charAt(i % 6) + "aeiou".charAt(i / 6), 0, 0, 1);
        }
        Desk.row(x, 0, 1, 2, 3, 4, 5);
        StringBuilder text = new StringBuilder();
        for (int kind = 1; kind <= 8; kind++) {
            text.append(Model.KINDS[kind]).append(" 1000 when all;");
        }
        Desk.making(x, 0, text + "none 1000 when all;");
        Desk.making(x, 1, text + "none 999 when all;");
        x.tell(0, 0);
        x.note(0);
        Desk.due("1000/439000 and 999/438999", x.better(0, 1), 1);
        Desk.due("999/438999 and 1000/439000", x.better(1, 0), 0);
    }

    static void promise27_twentyNotesAreCounted() {
        SlipDrawer x = catHat("none 1 when all;");
        Desk.making(x, 1, "");
        Desk.hear(x, "cat hat");
        for (int i = 0; i < 20; i++) {
            x.note(0);
        }
        Desk.due("20", x.better(0, 1), 20);
    }

    static void promise27_askingChangesNothing() {
        Desk.stays("better", x -> {
            x.better(0, 2);
            x.better(3, 3);
            x.better(0, 1);
        });
    }

    // ---- promise 28

    static void promise28_aKindIs0To8() {
        SlipDrawer x = Desk.full();
        Desk.due("-1", x.kinds(-1), NONE);
        Desk.due("9", x.kinds(9), NONE);
        Desk.due("the least", x.kinds(Desk.LEAST), NONE);
        Desk.due("the greatest", x.kinds(Desk.MOST), NONE);
        int[] want = {0, 1, 0, 0, 1, 0, 1, 1, 0};
        for (int kind = 0; kind <= 8; kind++) {
            Desk.due("kind " + kind, x.kinds(kind), want[kind]);
        }
    }

    static void promise28_withoutNotesThereAre0() {
        SlipDrawer x = Desk.rowOf("cat");
        for (int kind = 0; kind <= 8; kind++) {
            Desk.due("kind " + kind, x.kinds(kind), 0);
        }
        Desk.due("9", x.kinds(9), NONE);
    }

    static void promise28_aNoteCountsOnceForAllTakingsOfAKind() {
        SlipDrawer x = Desk.rowOf("cat", "hot");
        Desk.row(x, 0, 1, 1);
        Desk.note(x, 1, "hat hot hot");
        Desk.due("early, by two", x.kinds(1), 1);
    }

    static void promise28_aNoteCountsForEachKindThatGivesIt() {
        SlipDrawer x = catHat("");
        Desk.note(x, 0, "hat cat");
        Desk.due("swap", x.kinds(3), 1);
        Desk.due("trade", x.kinds(4), 1);
        Desk.due("none", x.kinds(0), 0);
        Desk.note(x, 1, "hat cat");
        Desk.due("none of another row", x.kinds(0), 1);
    }

    static void promise28_whatCantBeSaidCountsForNoKind() {
        SlipDrawer x = catHat("");
        Desk.note(x, 0, "zoo");
        for (int kind = 0; kind <= 8; kind++) {
            Desk.due("kind " + kind, x.kinds(kind), 0);
        }
    }

    static void promise28_twentyNotesAreCounted() {
        SlipDrawer x = catHat("");
        Desk.hear(x, "cat hat");
        for (int i = 0; i < 20; i++) {
            x.note(0);
        }
        Desk.due("none", x.kinds(0), 20);
    }

    static void promise28_askingChangesNothing() {
        Desk.stays("kinds", x -> {
            for (int kind = -1; kind <= 9; kind++) {
                x.kinds(kind);
            }
        });
    }

    // ---- promise 29

    private static SlipDrawer sixOnsets() {
        return Desk.rowOf("ba", "ce", "di", "fo", "gu", "hae");
    }

    private static void far(SlipDrawer x, int most, int least) {
        Desk.due("most", x.far(true), most);
        Desk.due("least", x.far(false), least);
    }

    static void promise29_withoutNotesThereIsNone() {
        far(new SlipDrawer(), NONE, NONE);
        far(sixOnsets(), NONE, NONE);
    }

    static void promise29_notesOfOtherKindsHaveNone() {
        SlipDrawer x = sixOnsets();
        Desk.note(x, 0, "ba ce di fo gu hae");
        Desk.note(x, 0, "ba be di fo gu hae");
        Desk.note(x, 0, "ce ba di fo gu hae");
        Desk.note(x, 0, "a ce di fo gu hae");
        Desk.note(x, 0, "zoo");
        Desk.due("late", x.kinds(2), 1);
        Desk.due("trade", x.kinds(4), 1);
        far(x, NONE, NONE);
    }

    static void promise29_anEarlyOneAndASwapHaveTheirGap() {
        SlipDrawer x = sixOnsets();
        Desk.note(x, 0, "da ce di fo gu hae");
        far(x, 2, 2);
        SlipDrawer y = sixOnsets();
        Desk.note(y, 0, "fa ce di bo gu hae");
        far(y, 3, 3);
    }

    static void promise29_gapsAre1To5() {
        String[] early = {"ca ce di fo gu hae", "da ce di fo gu hae", "fa ce di fo gu hae", "ga ce di fo gu hae",
            "ha ce di fo gu hae"};
        for (int gap = 1; gap <= 5; gap++) {
            SlipDrawer x = sixOnsets();
            Desk.note(x, 0, early[gap - 1]);
            far(x, gap, gap);
        }
    }

    static void promise29_theGreatestAndTheLeastOfAllNotes() {
        SlipDrawer x = sixOnsets();
        Desk.note(x, 0, "fa ce di fo gu hae");
        Desk.note(x, 0, "zoo");
        far(x, 3, 3);
        Desk.note(x, 0, "da ce di fo gu hae");
        far(x, 3, 2);
        Desk.note(x, 0, "ga ce di fo gu hae");
        far(x, 4, 2);
        Desk.note(x, 0, "ha ce di fo gu bae");
        far(x, 5, 2);
        Desk.note(x, 0, "ba ce di fo hu hae");
        far(x, 5, 1);
        x.undo();
        far(x, 5, 2);
    }

    static void promise29_ofOneNoteTheLeastIfSeveralGiveIt() {
        // hat, by the h of place 2 or of place 3
        SlipDrawer x = Desk.rowOf("cat", "dog", "hot", "hit");
        Desk.note(x, 0, "hat dog hot hit");
        far(x, 2, 2);
        Desk.note(x, 0, "hat dog hot cit");
        far(x, 3, 2);
    }

    static void promise29_theTakingNeedsNoWeight() {
        SlipDrawer x = sixOnsets();
        Desk.making(x, 0, "");
        Desk.note(x, 0, "ca ce di fo gu hae");
        far(x, 1, 1);
    }

    static void promise29_askingChangesNothing() {
        Desk.stays("far", x -> {
            x.far(true);
            x.far(false);
        });
    }

    // ---- promise 30

    private static SlipDrawer sorts() {
        SlipDrawer x = new SlipDrawer();
        Desk.word(x, "cat", 0, 0, 1);
        Desk.word(x, "dog", 0, 1, 1);
        Desk.word(x, "ox", 4, 0, 1);
        Desk.row(x, 0, 1, 2);
        return x;
    }

    private static void frame(SlipDrawer x, int same, int two) {
        Desk.due("of one sort", x.frame(true), same);
        Desk.due("of two", x.frame(false), two);
    }

    static void promise30_withoutNotesThereAre0() {
        frame(new SlipDrawer(), 0, 0);
        frame(sorts(), 0, 0);
    }

    static void promise30_notesOfOtherKindsDoNotCount() {
        SlipDrawer x = sorts();
        Desk.note(x, 0, "cat dog ox");
        Desk.note(x, 0, "dat cog ox");
        Desk.note(x, 0, "zoo");
        frame(x, 0, 0);
    }

    static void promise30_oneSortOrTwo() {
        SlipDrawer x = sorts();
        Desk.note(x, 0, "dog cat ox");
        frame(x, 1, 0);
        Desk.note(x, 0, "ox dog cat");
        frame(x, 1, 1);
        Desk.note(x, 0, "cat ox dog");
        frame(x, 1, 2);
    }

    static void promise30_twentyNotesAreCounted() {
        SlipDrawer x = sorts();
        Desk.hear(x, "dog cat ox");
        for (int i = 0; i < 20; i++) {
            x.note(0);
        }
        frame(x, 20, 0);
    }

    static void promise30_aNoteOfAnotherRowIsHeldAgainstThatRow() {
        SlipDrawer x = sorts();
        Desk.row(x, 1, 0, 2);
        Desk.note(x, 1, "dog cat ox");
        frame(x, 0, 0);
        Desk.note(x, 1, "cat dog ox");
        frame(x, 1, 0);
    }

    static void promise30_aTradeThatIsASwapTooCounts() {
        SlipDrawer x = catHat("");
        Desk.note(x, 0, "hat cat");
        frame(x, 1, 0);
    }

    static void promise30_askingChangesNothing() {
        Desk.stays("frame", x -> {
            x.frame(true);
            x.frame(false);
        });
    }
}
