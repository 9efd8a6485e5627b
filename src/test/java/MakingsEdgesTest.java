/** Boundaries of promises 7 to 9: the texts of makings and ears, their faults and these' places. */
public final class MakingsEdgesTest {
    private static final int NONE = Desk.NONE;

    public static void main(String[] args) {
        Desk.runAll(MakingsEdgesTest.class);
    }

    /** A text of one statement or more is taken, as a making and as an ear. */
    private static void taken(String text, int statements) {
        SlipDrawer x = new SlipDrawer();
        Desk.due("making: " + text, Desk.making(x, 0, text), statements);
        Desk.due("fault of " + text, x.fault(0), 0);
        Desk.due("place in " + text, x.fault(1), NONE);
        Desk.due("makings", x.has(2), 1);
        Desk.due("ear: " + text, Desk.ear(x, text), statements);
        Desk.due("the ear's fault of " + text, x.fault(0), 0);
        Desk.due("the ear's place in " + text, x.fault(1), NONE);
        Desk.due("ears", x.has(5), 1);
    }

    /** A text has a fault at a place, as a making and as an ear. */
    private static void faulty(String text, int fault, int place) {
        SlipDrawer x = new SlipDrawer();
        Desk.due("making: " + text, Desk.making(x, 0, text), NONE);
        Desk.due("fault of " + text, x.fault(0), fault);
        Desk.due("place in " + text, x.fault(1), place);
        Desk.due("makings", x.has(2), 0);
        Desk.due("ear: " + text, Desk.ear(x, text), NONE);
        Desk.due("the ear's fault of " + text, x.fault(0), fault);
        Desk.due("the ear's place in " + text, x.fault(1), place);
        Desk.due("ears", x.has(5), 0);
    }

    // ---- promise 7: which making

    static void promise07_makingsAre0To3() {
        SlipDrawer x = new SlipDrawer();
        Desk.due("-1", Desk.making(x, -1, "none 1 when all;"), -2);
        Desk.due("4", Desk.making(x, 4, "none 1 when all;"), -2);
        Desk.due("the least", Desk.making(x, Desk.LEAST, "none 1 when all;"), -2);
        Desk.due("the greatest", Desk.making(x, Desk.MOST, "none 1 when all;"), -2);
        Desk.due("none of them is there", x.has(2), 0);
        Desk.due("0", Desk.making(x, 0, "none 1 when all;"), 1);
        Desk.due("3", Desk.making(x, 3, "none 1 when all;"), 1);
    }

    static void promise07_noSuchNumberComesAheadOfAnyFault() {
        SlipDrawer x = new SlipDrawer();
        Desk.due("4 with a fault", Desk.making(x, 4, "none none"), -2);
        Desk.due("-1 with a fault", Desk.making(x, -1, "("), -2);
        Desk.due("no fault is told", x.fault(0), 0);
        Desk.due("no place is told", x.fault(1), NONE);
    }

    static void promise07_noSuchNumberEmptiesTheTapeAndChangesNothing() {
        Desk.emptiesTape("making 4", x -> Desk.due("making", Desk.making(x, 4, "none 1 when all;"), -2));
        Desk.emptiesTape("making -1", x -> Desk.due("making", Desk.making(x, -1, "none 1 when"), -2));
        Desk.emptiesTape("making 4, of the ear's slot", x -> Desk.due("making", Desk.making(x, 4, ""), -2));
    }

    static void promise07_aFaultEmptiesTheTapeAndChangesNothingElse() {
        // the scene's latest text has this fault, too
        Desk.emptiesTape("making 0", x -> Desk.due("making", Desk.making(x, 0, "lost 1 wen all;"), NONE));
        Desk.emptiesTape("making 2", x -> Desk.due("making", Desk.making(x, 2, "lost 1 w"), NONE));
        Desk.emptiesTape("making 1, not there", x -> Desk.due("making", Desk.making(x, 1, "lost 1 w when"), NONE));
    }

    static void promise07_aMakingComesInPlaceOfThatWhichIsThere() {
        SlipDrawer x = Desk.full();
        Desk.due("weight ahead", x.weight(2, 0, 0), 4);
        Desk.due("making", Desk.making(x, 0, "none 7 when all;"), 1);
        Desk.due("weight behind", x.weight(2, 0, 0), 7);
        Desk.due("weight of what it had", x.weight(2, 1, 0), 0);
        Desk.due("as many makings", x.has(2), 3);
    }

    static void promise07_anEmptyMakingComesInPlaceToo() {
        SlipDrawer x = Desk.full();
        Desk.due("making", Desk.making(x, 0, ""), 0);
        Desk.due("TOTAL", x.weight(0, NONE, 0), 0);
        Desk.due("as many makings", x.has(2), 3);
    }

    static void promise07_aMakingChangesNoOther() {
        SlipDrawer x = Desk.full();
        Desk.making(x, 1, "none 9 when all;");
        Desk.due("making 0", x.weight(2, 0, 0), 4);
        Desk.due("making 1", x.weight(2, 0, 1), 9);
        Desk.due("making 2", x.weight(2, 0, 2), 1);
        Desk.due("making 3", x.weight(2, 0, 3), 0);
        Desk.due("heard", x.taking(2, 0, 4), 50);
    }

    static void promise07_aTakenMakingEmptiesTheTape() {
        SlipDrawer x = Desk.full();
        Desk.making(x, 1, "none 9 when all;");
        Desk.due("end", x.end(1), false);
    }

    static void promise07_anEmptyTapeIsAMakingOfNoStatements() {
        taken("", 0);
    }

    static void promise07_blanksAreAMakingOfNoStatements() {
        taken(" ", 0);
        taken("\n", 0);
        taken(" \n \n\n  ", 0);
    }

    static void promise07_oneTo20StatementsAreTaken() {
        taken("none 1 when all;", 1);
        taken("none 1 when all;".repeat(19), 19);
        taken("none 1 when all;".repeat(20), 20);
        taken("none 1 when all;".repeat(20) + " \n ", 20);
    }

    static void promise07_aFullTapeIsRead() {
        String ahead = "none 1";
        String behind = " when all;";
        int many = 2100 - ahead.length() - behind.length();
        String longest = ahead + "+1".repeat(many / 2) + behind;
        Desk.due("length", longest.length(), 2100);
        taken(longest, 1);
        SlipDrawer x = Desk.rowOf("cat");
        Desk.making(x, 0, longest);
        Desk.due("more than 1000", x.weight(0, 0, 0), 1000);
        Desk.making(x, 0, longest.replace("+1+1+1", "+1+0+0"));
        Desk.due("as many as are added", x.weight(0, 0, 0), 349);
    }

    static void promise07_aFullTapeOfBlanksIsRead() {
        taken(" ".repeat(2100), 0);
        taken(" ".repeat(2084) + "none 1 when all;", 1);
    }

    static void promise07_aFullTapeOfTestsIsRead() {
        String test = "none 1 when all" + " or all".repeat(297) + ";";
        taken(test, 1);
        taken("none 1 when all" + " and all".repeat(260) + ";", 1);
        taken("none min(1" + "*1".repeat(1037) + ",2) when all;", 1);
    }

    // ---- promise 7: blanks

    static void promise07_blanksMayStandBetweenAll() {
        taken("\n none\n1\n+\n(\n2\n)\n*\nmin\n(\n3\n,\n4\n)\nwhen\nnot\n[\nall\nor\n1\n<\n2\n]\n;\n", 1);
    }

    static void promise07_noBlanksAreNeededBesideSigns() {
        taken("none(1)+2*min(3,4)/max(gap,far)-own when[all]and not[real]or(1)<2;lost(1)when 1=1;", 2);
    }

    static void promise07_wordsSideBySideNeedABlank() {
        taken("none gap when all;", 1);
        faulty("nonegap when all;", 1, 0);
        faulty("none gapwhen all;", 1, 5);
        faulty("none gap whenall;", 1, 9);
        faulty("none 1 when notall;", 1, 12);
    }

    static void promise07_aWordAndANumberSideBySideNeedABlank() {
        taken("none 1 when 2 = gap or all;", 1);
        faulty("none1 when all;", 1, 4);
        faulty("none 1when all;", 1, 6);
        faulty("none 1 when2 = gap or all;", 1, 11);
        faulty("none 1 when 2 = 3or all;", 1, 17);
    }

    static void promise07_blanksAre10And32Alone() {
        for (int c = 0; c < 256; c++) {
            String text = "none 1" + (char) c + " when all;";
            if (c == 10 || c == 32) {
                taken(text, 1);
            } else if (c < '0' || c > '9') {
                faulty(text, 1, c == '+' || c == '-' || c == '*' || c == '/' ? 8 : 6);
            }
        }
    }

    static void promise07_aWordMayNotBeCutByABlank() {
        faulty("no ne 1 when all;", 1, 0);
        faulty("none 1 wh en all;", 1, 7);
        faulty("none 1 when al l;", 1, 12);
    }

    static void promise07_aNumberMayNotBeCutByABlank() {
        faulty("none 1 2 when all;", 1, 7);
    }

    // ---- promise 7: what a text is made of

    static void promise07_eachKindBeginsAStatement() {
        for (String kind : Model.KINDS) {
            taken(kind + " 1 when all;", 1);
        }
    }

    static void promise07_noOtherOwnWordBeginsAStatement() {
        String others = "when or and not all real gap place words often own sort far min max";
        for (String word : others.split(" ")) {
            faulty(word + " 1 when all;", 1, 0);
        }
    }

    static void promise07_noKindIsAPartOrAFact() {
        for (String kind : Model.KINDS) {
            faulty("none " + kind + " when all;", 1, 5);
            faulty("none 1 when " + kind + ";", 1, 12);
        }
    }

    static void promise07_eachNameIsAPart() {
        for (String name : "gap place words often own sort far".split(" ")) {
            taken("none " + name + " when all;", 1);
            taken("none 1 when " + name + " = " + name + ";", 1);
        }
    }

    static void promise07_allAndRealAreFactsAndNoParts() {
        taken("none 1 when all;", 1);
        taken("none 1 when real;", 1);
        faulty("none all when all;", 1, 5);
        faulty("none real when all;", 1, 5);
        faulty("none 1 when all = 1;", 1, 16);
        faulty("none 1 when 1 = real;", 1, 16);
    }

    static void promise07_aSumIsNoFact() {
        faulty("none 1 when 1;", 1, 13);
        faulty("none 1 when gap and all;", 1, 16);
        faulty("none 1 when [1];", 1, 14);
        faulty("none 1 when not 1;", 1, 17);
        taken("none 1 when not 1 = 1;", 1);
    }

    static void promise07_theSignsOfAFactAreThree() {
        taken("none 1 when 1 < 2;", 1);
        taken("none 1 when 1 > 2;", 1);
        taken("none 1 when 1 = 2;", 1);
        faulty("none 1 when 1 <= 2;", 1, 15);
        faulty("none 1 when 1 == 2;", 1, 15);
        faulty("none 1 when 1 ! 2;", 1, 14);
        faulty("none 1 when 1 < 2 < 3;", 1, 18);
        faulty("none 1 when < 2;", 1, 12);
        faulty("none 1 when 1 2;", 1, 14);
        faulty("none 1 when gap far;", 1, 16);
        faulty("none 1 when (1) (2);", 1, 16);
        faulty("none 1 when 1 <;", 1, 15);
    }

    static void promise07_bracketsAreForTestsRoundOnesForSums() {
        taken("none (1) when [all];", 1);
        faulty("none [1] when all;", 1, 5);
        faulty("none 1 when (all);", 1, 13);
        faulty("none 1 when [all);", 1, 16);
        faulty("none (1] when all;", 1, 7);
        faulty("none () when all;", 1, 6);
        faulty("none 1 when [];", 1, 13);
        faulty("none 1) when all;", 1, 6);
        faulty("none 1 when all];", 1, 15);
    }

    static void promise07_minAndMaxHaveTwoSums() {
        taken("none min(1, 2) when all;", 1);
        taken("none max(1 + 2, 3 * 4) when all;", 1);
        faulty("none min(1) when all;", 1, 10);
        faulty("none max(1, 2, 3) when all;", 1, 13);
        faulty("none min() when all;", 1, 9);
        faulty("none min 1, 2 when all;", 1, 9);
        faulty("none max when all;", 1, 9);
        faulty("none min(1; 2) when all;", 1, 10);
        faulty("none (1, 2) when all;", 1, 7);
    }

    static void promise07_aSignOfASumStandsBetweenTwo() {
        for (String sign : "+ - * /".split(" ")) {
            taken("none 1 " + sign + " 2 when all;", 1);
            faulty("none " + sign + " 2 when all;", 1, 5);
            faulty("none 1 " + sign + " when all;", 1, 9);
            faulty("none 1 " + sign + " " + sign + " 2 when all;", 1, 9);
        }
    }

    static void promise07_orAndAndStandBetweenTwo() {
        for (String word : "or and".split(" ")) {
            int length = word.length();
            taken("none 1 when all " + word + " real;", 1);
            faulty("none 1 when " + word + " all;", 1, 12);
            faulty("none 1 when all " + word + ";", 1, 16 + length);
            faulty("none 1 when all " + word + " " + word + " all;", 1, 17 + length);
            faulty("none 1 " + word + " 2 when all;", 1, 7);
        }
    }

    static void promise07_aStatementHasASumAWhenATestAndAnEnd() {
        faulty("none when all;", 1, 5);
        faulty("none 1 all;", 1, 7);
        faulty("none 1 when;", 1, 11);
        faulty("none 1 when all none 1 when all;", 1, 16);
        faulty("none 1 when all;;", 1, 16);
        faulty(";", 1, 0);
        faulty("none 1 when when all;", 1, 12);
    }

    static void promise07_capitalsAreNoOwnWords() {
        faulty("None 1 when all;", 1, 0);
        faulty("none 1 When all;", 1, 7);
        faulty("none 1 whEn all;", 1, 7);
    }

    // ---- promise 7: numbers

    static void promise07_aNumberHas1To4Digits() {
        taken("none 1 when all;", 1);
        taken("none 12 when all;", 1);
        taken("none 123 when all;", 1);
        taken("none 1234 when all;", 1);
        taken("none 9999 when all;", 1);
        taken("none 0000 when all;", 1);
        faulty("none 12345 when all;", 1, 9);
        faulty("none 00001 when all;", 1, 9);
    }

    static void promise07_aNumberHasNoSign() {
        faulty("none -1 when all;", 1, 5);
        faulty("none +1 when all;", 1, 5);
        taken("none 0-1 when all;", 1);
    }

    static void promise07_aNumberIsWhole() {
        faulty("none 1.5 when all;", 1, 6);
    }

    // ---- promise 8

    static void promise08_anEarComesInPlaceOfThatWhichIsThere() {
        SlipDrawer x = Desk.full();
        Desk.due("heard ahead", x.taking(2, 0, 4), 50);
        Desk.due("ear", Desk.ear(x, "none 7 when all;"), 1);
        Desk.due("heard behind", x.taking(2, 0, 4), 7);
        Desk.due("one ear", x.has(5), 1);
    }

    static void promise08_aFaultEmptiesTheTapeAndChangesNothingElse() {
        // the scene's latest text has this fault, too
        Desk.emptiesTape("ear", x -> Desk.due("ear", Desk.ear(x, "lost 1 wen all;"), NONE));
    }

    static void promise08_aFaultLeavesADrawerWithoutAnEar() {
        SlipDrawer x = Desk.rowOf("cat");
        Desk.due("ear", Desk.ear(x, "none 1 when"), NONE);
        Desk.due("has", x.has(5), 0);
        Desk.due("heard", x.taking(0, 0, 4), 100);
    }

    static void promise08_anEmptyEarHearsNothing() {
        SlipDrawer x = Desk.rowOf("cat");
        Desk.due("ear", Desk.ear(x, ""), 0);
        Desk.due("has", x.has(5), 1);
        Desk.due("heard", x.taking(0, 0, 4), 0);
    }

    static void promise08_anEarHas20StatementsAtMost() {
        SlipDrawer x = new SlipDrawer();
        Desk.due("20", Desk.ear(x, "none 1 when all;".repeat(20)), 20);
        Desk.due("21", Desk.ear(x, "none 1 when all;".repeat(21)), NONE);
        Desk.due("fault", x.fault(0), 5);
        Desk.due("the ear stays", x.has(5), 1);
    }

    static void promise08_anEarChangesNoMaking() {
        SlipDrawer x = Desk.full();
        Desk.ear(x, "none 9 when all;");
        Desk.due("makings", x.has(2), 3);
        for (int k = 0; k < 4; k++) {
            Desk.due("weight by " + k, x.weight(2, 0, k), new int[] {4, NONE, 1, 0}[k]);
        }
    }

    static void promise08_aTakenEarEmptiesTheTape() {
        SlipDrawer x = Desk.full();
        Desk.ear(x, "none 9 when all;");
        Desk.due("end", x.end(1), false);
    }

    // ---- promise 9

    static void promise09_whatIs0Or1() {
        SlipDrawer x = Desk.full();
        Desk.due("-1", x.fault(-1), NONE);
        Desk.due("0", x.fault(0), 1);
        Desk.due("1", x.fault(1), 7);
        Desk.due("2", x.fault(2), NONE);
        Desk.due("the least", x.fault(Desk.LEAST), NONE);
        Desk.due("the greatest", x.fault(Desk.MOST), NONE);
    }

    static void promise09_aheadOfAnyTextThereIsNoFault() {
        SlipDrawer x = new SlipDrawer();
        Desk.due("fault", x.fault(0), 0);
        Desk.due("place", x.fault(1), NONE);
        Desk.due("another", x.fault(2), NONE);
    }

    static void promise09_aSoundTextHasNoFault() {
        SlipDrawer x = Desk.full();
        Desk.making(x, 0, "");
        Desk.due("fault", x.fault(0), 0);
        Desk.due("place", x.fault(1), NONE);
    }

    static void promise09_aSoundEarHasNoFault() {
        SlipDrawer x = Desk.full();
        Desk.ear(x, "");
        Desk.due("fault", x.fault(0), 0);
        Desk.due("place", x.fault(1), NONE);
    }

    static void promise09_theLatestTextIsToldMakingOrEar() {
        SlipDrawer x = new SlipDrawer();
        Desk.making(x, 0, "none ?");
        Desk.due("of the making", x.fault(1), 5);
        Desk.ear(x, "none 1 ?");
        Desk.due("of the ear", x.fault(1), 7);
        Desk.making(x, 1, "?");
        Desk.due("of another making", x.fault(1), 0);
    }

    static void promise09_aMakingThatIsNoneIsNotTold() {
        SlipDrawer x = Desk.full();
        Desk.making(x, 4, "none 1 when all;");
        Desk.due("the fault ahead of it", x.fault(0), 1);
        Desk.due("its place", x.fault(1), 7);
        Desk.making(x, 0, "none 1 when all;");
        Desk.making(x, -1, "?");
        Desk.due("no fault ahead of it", x.fault(0), 0);
        Desk.due("no place", x.fault(1), NONE);
    }

    static void promise09_askingChangesNothing() {
        Desk.stays("fault", x -> {
            for (int what = -1; what <= 2; what++) {
                x.fault(what);
            }
        });
    }

    // ---- promise 9: fault 1

    static void promise09_anUnknownWordIsAFaultAtItsFirstByte() {
        faulty("nones 1 when all;", 1, 0);
        faulty("non 1 when all;", 1, 0);
        faulty("none gaps when all;", 1, 5);
        faulty("none 1 whenn all;", 1, 7);
        faulty("none 1 when alll;", 1, 12);
    }

    static void promise09_anOwnWordOutOfPlaceIsAFaultAtItsFirstByte() {
        faulty("none 1 when all when;", 1, 16);
        faulty("none 1 gap when all;", 1, 7);
    }

    static void promise09_aNumberOutOfPlaceIsAFaultAtItsFirstByte() {
        faulty("none 1 when all 12;", 1, 16);
        faulty("12 1 when all;", 1, 0);
        faulty("none 1 12345 when all;", 1, 7);
    }

    static void promise09_aFifthDigitIsAFaultAtItself() {
        faulty("none 12345", 1, 9);
        faulty("none 123456789 when all;", 1, 9);
        faulty("none 1 when gap = 00000;", 1, 22);
    }

    static void promise09_aTextThatEndsTooSoonHasAFaultAtItsLength() {
        String text = "none min ( 1 , 2 ) when [ all or not gap < 2 ]";
        int at = 0;
        // behind each of its parts the text may go on; its end alone is what is amiss
        while (at >= 0) {
            at = text.indexOf(' ', at + 1);
            String cut = at < 0 ? text : text.substring(0, at);
            faulty(cut, 1, cut.length());
        }
        taken(text + ";", 1);
    }

    static void promise09_blanksBehindATextThatEndsTooSoonCount() {
        faulty("none", 1, 4);
        faulty("none ", 1, 5);
        faulty("none \n ", 1, 7);
    }

    static void promise09_aTextMayEndTooSoonAt2100() {
        faulty("none 1 when all" + " ".repeat(2085), 1, 2100);
        faulty("none 1" + "+1".repeat(1047), 1, 2100);
        faulty(" ".repeat(2099) + ";", 1, 2099);
        taken(" ".repeat(2099) + "\n", 0);
    }

    static void promise09_bytesBehindTheEndOfTheTapeDoNotCount() {
        SlipDrawer x = new SlipDrawer();
        x.feed(0x6e6f6e65, 0x20312077, 0x68656e20, 0x616c6c3b, 0x3b3b3b3b);
        x.end(15);
        Desk.due("the ; has gone", x.making(0), NONE);
        Desk.due("place", x.fault(1), 15);
        x.feed(0x6e6f6e65, 0x20312077, 0x68656e20, 0x616c6c3b, 0x3b3b3b3b);
        x.end(16);
        Desk.due("the ; is there", x.making(0), 1);
        x.feed(0x6e6f6e65, 0x20313233, 0x34350000, 0, 0);
        x.end(9);
        Desk.due("the fifth digit has gone", x.making(0), NONE);
        Desk.due("place of a text that ends too soon", x.fault(1), 9);
    }

    static void promise09_theFirstFaultAlongTheTextIsTold() {
        faulty("none 1 whn all; ((((((((", 1, 7);
        faulty("none (((((((1 wen", 4, 11);
        faulty("nones" + "none 1 when all;".repeat(21), 1, 0);
        faulty("none 1 when all;".repeat(19) + "none 1 when al;none 1 when all;", 1, 316);
    }

    static void promise09_aFaultStandsInAnyStatement() {
        String sound = "none 1 when all;";
        for (int i = 0; i < 20; i++) {
            faulty(sound.repeat(i) + "none 1 when;", 1, 16 * i + 11);
        }
    }

    // ---- promise 9: fault 4

    static void promise09_sixRoundBracketsMayBeOpenTheSeventhIsAFault() {
        taken("none ((((((1)))))) when all;", 1);
        faulty("none (((((((1))))))) when all;", 4, 11);
        faulty("none (((((((", 4, 11);
        faulty("none ((((((", 1, 11);
    }

    static void promise09_sixBracketsMayBeOpenTheSeventhIsAFault() {
        taken("none 1 when [[[[[[all]]]]]];", 1);
        faulty("none 1 when [[[[[[[all]]]]]]];", 4, 18);
    }

    static void promise09_sixNotsMayBeOpenTheSeventhIsAFault() {
        taken("none 1 when not not not not not not all;", 1);
        faulty("none 1 when not not not not not not not all;", 4, 36);
    }

    static void promise09_whatIsOpenIsCountedTogether() {
        taken("none 1 when not [not [not (1) = 1]];", 1);
        taken("none 1 when not [not [((1)) = 1]];", 1);
        faulty("none 1 when not [not [(((1))) = 1]];", 4, 24);
        faulty("none 1 when not [not [not [not all]]];", 4, 27);
        faulty("none 1 when [not [not [not [all]]]];", 4, 27);
        faulty("none 1 when [[[[[[(1) = 1]]]]]];", 4, 18);
        faulty("none 1 when [[[[[[not all]]]]]];", 4, 18);
        faulty("none 1 when not not not not not not (1) = 1;", 4, 36);
        faulty("none 1 when not not not not not not [all];", 4, 36);
    }

    static void promise09_whatIsClosedIsNotOpen() {
        taken("none (1)+(1)+(1)+(1)+(1)+(1)+(1)+(1) when all;", 1);
        taken("none ((((((1))))))+((((((1)))))) when all;", 1);
        taken("none (((((1)+(2)+(3)+(4)))))*(1) when all;", 1);
        taken("none 1 when [all]and[all]and[all]and[all]and[all]and[all]and[all];", 1);
        taken("none 1 when [[[[[[all]]]]]] or [[[[[[all]]]]]];", 1);
        taken("none ((((((1)))))) when [[[[[[all]]]]]];lost ((((((1)))))) when all;", 2);
    }

    static void promise09_aNotIsOpenUntilItsFactEnds() {
        taken("none 1 when not not not not not not all and not all;", 1);
        taken("none 1 when not not not not not not all or [[[[[[all]]]]]];", 1);
        taken("none 1 when not not not not not not 1 = 1 and (1) = 1;", 1);
        taken("none 1 when not not not not not [all] and not all;", 1);
        faulty("none 1 when not not not not not not 1 = (1);", 4, 40);
        faulty("none 1 when not not not not not [all and not all];", 4, 41);
        taken("none 1 when not all and not all and not all and not all and not all and not all and not all;", 1);
    }

    static void promise09_theSeventhOutOfPlaceIsFault1() {
        // nothing may be opened there, however little is open
        faulty("none ((((((1(", 1, 12);
        faulty("none ((((((1[", 1, 12);
        faulty("none 1 when [[[[[[all not", 1, 22);
    }

    static void promise09_theFirstOfTwoThatAreTooManyIsTold() {
        faulty("none ((((((((1)))))))) when all;", 4, 11);
        faulty("none 1 when [[[[[[[[[", 4, 18);
    }

    // ---- promise 9: fault 5

    static void promise09_a21stStatementIsAFaultAtItsFirstByte() {
        String twenty = "lost 1 when all;".repeat(20);
        taken(twenty, 20);
        faulty(twenty + "none 1 when all;", 5, 320);
        faulty(twenty + " \nnone 1 when all;", 5, 322);
    }

    static void promise09_whateverStandsThereIsA21stStatement() {
        String twenty = "lost 1 when all;".repeat(20);
        for (int c = 0; c < 256; c++) {
            if (c == 10 || c == 32) {
                taken(twenty + (char) c, 20);
            } else {
                faulty(twenty + (char) c, 5, 320);
            }
        }
        faulty(twenty + "xyz 1", 5, 320);
        faulty(twenty + "12345", 5, 320);
    }

    static void promise09_aFaultOfThe20thStatementComesAheadOfThe21st() {
        String nineteen = "lost 1 when all;".repeat(19);
        faulty(nineteen + "lost 1 when all none 1 when all;", 1, 320);
        faulty(nineteen + "lost (((((((1))))))) when all;none", 4, 315);
    }
}
