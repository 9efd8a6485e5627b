/** Boundaries of promises 36 to 38: images of the list, written and taken. */
public final class ImageEdgesTest {
    private static final int NONE = Desk.NONE;

    public static void main(String[] args) {
        Desk.runAll(ImageEdgesTest.class);
    }

    private static SlipDrawer notes(int count, int length) {
        SlipDrawer x = Desk.full();
        x.undo();
        x.undo();
        Desk.hear(x, "z".repeat(length));
        for (int i = 0; i < count; i++) {
            x.note(i % 3);
        }
        return x;
    }

    /** What is on the tape is no image: it goes, and all else stays. */
    private static void refused(String what, String ahead) {
        Desk.emptiesTape(what, x -> Desk.due(what, Desk.on(x, ahead), false));
    }

    private static void refusedAsItIs(String what, String bytes) {
        Desk.emptiesTape(what, x -> {
            Desk.tape(x, bytes);
            Desk.due(what, x.on(), false);
        });
    }

    /** An image is taken: this is how many notes there are then. */
    private static SlipDrawer taken(String what, String ahead, int notes) {
        SlipDrawer x = Desk.full();
        Desk.due(what, Desk.on(x, ahead), true);
        Desk.due(what + ": notes", x.has(3), notes);
        return x;
    }

    // ---- promise 36

    static void promise36_anEmptyListIsTwoBytes() {
        SlipDrawer x = new SlipDrawer();
        Desk.due("image", x.image(), 2);
        Desk.due("octets", Desk.octets(x), "0 21");
    }

    static void promise36_aFullListOfTheLongestNotes() {
        SlipDrawer x = notes(20, 100);
        Desk.due("image", x.image(), 2 + 20 * 102);
        Desk.due("how many", x.octet(0), 20);
        Desk.due("the last note's row", x.octet(1 + 19 * 102), 1);
        Desk.due("how many bytes", x.octet(2 + 19 * 102), 100);
        Desk.due("the last of them", x.octet(2040), 'z');
        Desk.due("none behind the last byte", x.octet(2042), NONE);
    }

    static void promise36_aFullListOfTheShortestNotes() {
        Desk.due("image", notes(20, 1).image(), 2 + 20 * 3);
        Desk.due("image of 19", notes(19, 1).image(), 2 + 19 * 3);
    }

    static void promise36_theBytesOfOneNote() {
        SlipDrawer x = Desk.rowOf("cat");
        Desk.note(x, 0, "a b");
        Desk.due("image", x.image(), 7);
        // 7, 22, 66, 201, 198 (603 + 97 = 700), 124 (594 + 32 = 626), 219 (372 + 98 = 470)
        Desk.due("octets", Desk.octets(x), "1 0 3 97 32 98 219");
    }

    static void promise36_theLastByteGoesRoundAt251() {
        for (int length = 1; length <= 100; length++) {
            SlipDrawer x = notes(1, length);
            int many = x.image();
            int check = 7;
            for (int i = 0; i < many - 1; i++) {
                check = (3 * check + x.octet(i)) % 251;
            }
            Desk.due("last byte with " + length, x.octet(many - 1), check);
        }
    }

    static void promise36_theTwelfthRowIsWritten() {
        SlipDrawer x = Desk.rowOf("cat");
        for (int i = 1; i < 12; i++) {
            Desk.row(x, 0);
        }
        Desk.note(x, 11, "a");
        x.image();
        Desk.due("its row", x.octet(1), 11);
    }

    static void promise36_allButTheImageStays() {
        Desk.stays("image", () -> {
            SlipDrawer x = Desk.full();
            x.image();
            return x;
        }, x -> x.image());
    }

    // ---- promise 37

    static void promise37_aheadOfAnyImageThereIsNoByte() {
        SlipDrawer x = Desk.rowOf("cat");
        Desk.note(x, 0, "cat");
        Desk.due("0", x.octet(0), NONE);
        Desk.due("-1", x.octet(-1), NONE);
        x.image();
        Desk.due("0 behind it", x.octet(0), 1);
    }

    static void promise37_theByteIsThere() {
        SlipDrawer x = new SlipDrawer();
        x.image();
        Desk.due("-1", x.octet(-1), NONE);
        Desk.due("0", x.octet(0), 0);
        Desk.due("1", x.octet(1), 21);
        Desk.due("2 of 2", x.octet(2), NONE);
        Desk.due("the least", x.octet(Desk.LEAST), NONE);
        Desk.due("the greatest", x.octet(Desk.MOST), NONE);
    }

    static void promise37_theLastByteOfTheGreatestImage() {
        SlipDrawer x = notes(20, 100);
        x.image();
        Desk.due("2041", x.octet(2041) >= 0, true);
        Desk.due("2042", x.octet(2042), NONE);
    }

    static void promise37_theLatestImageIsToldUntilTheNext() {
        SlipDrawer x = Desk.rowOf("cat");
        Desk.note(x, 0, "a b");
        x.image();
        x.undo();
        Desk.due("behind undo", Desk.octets(x), "1 0 3 97 32 98 219");
        Desk.on(x, "\0");
        Desk.due("behind on", Desk.octets(x), "1 0 3 97 32 98 219");
        x.image();
        Desk.due("the next", Desk.octets(x), "0 21");
    }

    static void promise37_bytesOf128AndMoreAreNotBelow0() {
        SlipDrawer x = Desk.rowOf("cat");
        Desk.note(x, 0, "a b");
        x.image();
        Desk.due("219", x.octet(6), 219);
    }

    static void promise37_askingChangesNothing() {
        Desk.stays("octet", x -> {
            for (int k = -1; k < 20; k++) {
                x.octet(k);
            }
        });
    }

    // ---- promise 38

    static void promise38_anImageOfNoNotesIsTaken() {
        SlipDrawer x = taken("no notes", "\0", 0);
        Desk.due("recall", x.recall(0), NONE);
    }

    static void promise38_anEmptyTapeIsNoImage() {
        refusedAsItIs("an empty tape", "");
    }

    static void promise38_oneByteIsNoImage() {
        refusedAsItIs("0", "\0");
        refusedAsItIs("7", "\7");
        refusedAsItIs("21", "\25");
    }

    static void promise38_theLastByteIsThatOfThoseAhead() {
        refusedAsItIs("one below", "\0\24");
        refusedAsItIs("one above", "\0\26");
        refusedAsItIs("0", "\0\0");
        // 21 + 251 is no byte; 21 alone is taken
        SlipDrawer x = Desk.full();
        Desk.tape(x, "\0\25");
        Desk.due("21", x.on(), true);
    }

    static void promise38_aLastByteThatIsAlikeMod251IsNone() {
        String ahead = "\1\0\3zzz";
        for (int i = 0; i < 26 * 26 * 26 && Desk.lastByte(ahead) != 0; i++) {
            ahead = "\1\0\3" + (char) ('a' + i / 676) + (char) ('a' + i / 26 % 26) + (char) ('a' + i % 26);
        }
        SlipDrawer x = Desk.full();
        Desk.tape(x, ahead + (char) 251);
        Desk.due("251", x.on(), false);
        Desk.tape(x, ahead + (char) 0);
        Desk.due("0", x.on(), true);
    }

    static void promise38_nothingStandsBehindTheLastByte() {
        refusedAsItIs("a blank more", "\0\25 ");
        refusedAsItIs("a 0 more", "\0\25\0");
        // with a last byte that would be that of all ahead of it
        refused("an image, and its byte again", "\0\25");
    }

    static void promise38_anImageThatEndsTooSoonIsNone() {
        SlipDrawer x = Desk.full();
        x.image();
        StringBuilder bytes = new StringBuilder();
        for (int i = 0; x.octet(i) != NONE; i++) {
            bytes.append((char) x.octet(i));
        }
        for (int i = 0; i < bytes.length(); i++) {
            refusedAsItIs(i + " bytes", bytes.substring(0, i));
            if (i > 0 && i < bytes.length() - 1) {
                refused(i + " bytes, and the byte of these", bytes.substring(0, i));
            }
        }
        Desk.tape(x, bytes.toString());
        Desk.due("all bytes", x.on(), true);
        Desk.due("notes", x.has(3), 2);
    }

    static void promise38_0To20NotesAreTaken() {
        SlipDrawer x = taken("20 notes", "\24" + "\2\1x".repeat(20), 20);
        Desk.due("the last", x.recall(19), 2);
        taken("1 note", "\1\2\1x", 1);
        refused("21 notes", "\25" + "\2\1x".repeat(21));
        refused("255 notes", "\377" + "\2\1x".repeat(255));
    }

    static void promise38_asManyNotesAsItSaysAreThere() {
        refused("one less", "\2\2\1x");
        refused("one more", "\1\2\1x\2\1x");
        refused("none of one", "\1");
        refused("one of none", "\0\2\1x");
    }

    static void promise38_rowsAreThere() {
        taken("row 0", "\1\0\1x", 1);
        taken("row 2", "\1\2\1x", 1);
        refused("row 3 of 3", "\1\3\1x");
        refused("row 255", "\1\377\1x");
        refused("a second row that is not there", "\2\0\1x\3\1x");
    }

    static void promise38_withoutRowsOnlyNoNotesAreTaken() {
        SlipDrawer x = new SlipDrawer();
        Desk.due("row 0", Desk.on(x, "\1\0\1x"), false);
        Desk.due("no notes", Desk.on(x, "\0"), true);
        Desk.due("has", x.has(3), 0);
    }

    static void promise38_theTwelfthRowIsTaken() {
        SlipDrawer x = Desk.rowOf("cat");
        for (int i = 1; i < 12; i++) {
            Desk.row(x, 0);
        }
        Desk.due("row 12", Desk.on(x, "\1\14\1x"), false);
        Desk.due("row 11", Desk.on(x, "\1\13\1x"), true);
        Desk.due("its row", x.recall(0), 11);
    }

    static void promise38_aNoteHas1To100Bytes() {
        refused("0", "\1\0\0");
        taken("1", "\1\0\1x", 1);
        SlipDrawer x = taken("100", "\1\0\144" + "x".repeat(100), 1);
        x.recall(0);
        Desk.due("all of them", Desk.said(x), "x".repeat(100));
        refused("101", "\1\0\145" + "x".repeat(101));
        refused("255", "\1\0\377" + "x".repeat(255));
    }

    static void promise38_aNoteHasLettersAndBlanks() {
        for (int c = 0; c < 256; c++) {
            if (c != 10) {
                boolean fits = c >= 'a' && c <= 'z' || c == 32;
                SlipDrawer x = Desk.rowOf("cat");
                Desk.due("byte " + c, Desk.on(x, "\1\0\1" + (char) c), fits);
                Desk.due("notes", x.has(3), fits ? 1 : 0);
            }
        }
    }

    static void promise38_eachByteOfEachNoteIsALetterOrABlank() {
        refused("the first of the first", "\2\0\3Xbc\1\3abc");
        refused("the last of the first", "\2\0\3ab1\1\3abc");
        refused("the last of the last", "\2\0\3abc\1\3ab.");
        taken("none", "\2\0\3abc\1\3abc", 2);
    }

    static void promise38_theGreatestImageIsTaken() {
        SlipDrawer x = notes(20, 100);
        x.image();
        // of its bytes the tape is made on another object, for an object has 512 calls
        StringBuilder ahead = new StringBuilder("\24");
        for (int i = 0; i < 20; i++) {
            ahead.append((char) (i % 3)).append((char) 100).append("z".repeat(100));
        }
        SlipDrawer y = taken("2042 bytes", ahead.toString(), 20);
        y.image();
        Desk.due("the same image", y.octet(2041), x.octet(2041));
        Desk.due("the last row", y.recall(19), 1);
    }

    static void promise38_theListIsAsItTellsAndNoMore() {
        SlipDrawer x = taken("one note", "\1\2\3abc", 1);
        Desk.due("the first", x.recall(0), 2);
        Desk.due("said", Desk.said(x), "abc");
        Desk.due("the second has gone", x.recall(1), NONE);
        Desk.due("the next note is the second", x.note(0), 2);
    }

    static void promise38_aTakenImageLeavesTheSaidAndEmptiesTheTape() {
        SlipDrawer x = taken("one note", "\1\2\3abc", 1);
        Desk.due("said", Desk.said(x), "hat");
        Desk.due("tape", x.end(1), false);
        Desk.due("words", x.has(0), 5);
        Desk.due("rows", x.has(1), 3);
        Desk.due("makings", x.has(2), 3);
        Desk.due("fault", x.fault(1), 7);
    }

    static void promise38_anImageGoesBackAndForth() {
        SlipDrawer x = Desk.full();
        x.image();
        String octets = Desk.octets(x);
        StringBuilder bytes = new StringBuilder();
        for (String octet : octets.split(" ")) {
            bytes.append((char) Integer.parseInt(octet));
        }
        x.undo();
        Desk.tape(x, bytes.toString());
        Desk.due("on", x.on(), true);
        x.image();
        Desk.due("octets", Desk.octets(x), octets);
    }

    static void promise38_bytesBehindTheEndOfTheTapeDoNotCount() {
        SlipDrawer x = Desk.full();
        Desk.tape(x, "\1\2\1x");
        Desk.due("the last byte has gone", x.on(), false);
        Desk.imageTape(x, "\1\2\1x");
        x.end(4);
        Desk.due("it is cut", x.on(), false);
        Desk.imageTape(x, "\1\2\1x");
        Desk.due("it is there", x.on(), true);
    }
}
