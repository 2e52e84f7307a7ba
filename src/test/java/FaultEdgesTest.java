/** The place of a fault by the text's form, and of values that nothing defines and gates that rest on themselves. */
public final class FaultEdgesTest {
    /** Each number has one digit, so that each part of one that is cut off is none. */
    private static final String PLAIN = "aag 4 1 2 2 1\n2\n4 8\n6 3 1\n8\n0\n8 4 7\n";
    private static final String PACKED = "aig 4 1 2 2 1\n8\n3 1\n8\n0\n\1\3";
    private static final int PACKED_GATES = PACKED.length() - 2;

    private static String changed(String text, int at, int b) {
        return text.substring(0, at) + (char) b + text.substring(at + 1);
    }

    @Case("how many there are, if it ends too early")
    private static void plainEndsTooEarly() {
        Desk.fine(PLAIN);
        for (int bytes = 0; bytes < PLAIN.length(); bytes++) {
            Desk.fault(PLAIN.substring(0, bytes), bytes);
        }
    }

    @Case("how many there are, if it ends too early")
    private static void packedEndsTooEarly() {
        Desk.fine(PACKED);
        for (int bytes = 3; bytes < PACKED.length(); bytes++) {
            Desk.fault(PACKED.substring(0, bytes), bytes);
        }
    }

    /** Of two bytes, ai, the third is not g: so it is a plain text's fault. */
    @Case("PACKED if its second and third byte are ig")
    private static void packedOfFewerThanThreeBytesIsPlain() {
        Desk.fault("", 0);
        Desk.fault("a", 1);
        Desk.fault("ai", 1);
    }

    @Case("the place of the first byte with which no text of that kind goes on")
    private static void wrongBytesInPlain() {
        for (int at = 0; at < PLAIN.length(); at++) {
            for (int b : new int[] {'x', 0, 9, 11, 13, 31, 33, 47, 58, 'c', 128 + '0', 128 + ' ', 128 + 10, 255}) {
                Desk.fault(changed(PLAIN, at, b), at);
            }
        }
    }

    @Case("the place of the first byte with which no text of that kind goes on")
    private static void wrongBytesInPacked() {
        for (int at = 3; at < PACKED_GATES; at++) {
            for (int b : new int[] {'x', 0, 9, 11, 13, 31, 33, 47, 58, 'c', 128 + '0', 128 + ' ', 128 + 10, 255}) {
                Desk.fault(changed(PACKED, at, b), at);
            }
        }
        Desk.fault(changed(PACKED, 0, 'x'), 0);
        Desk.fault(changed(PACKED, 1, 'x'), 1);
        Desk.fault(changed(PACKED, 2, 'x'), 1);
        // As a plain text it has an input 8, and then a latch that is odd.
        Desk.fault(changed(PACKED, 1, 'a'), 16);
    }

    @Case("BLANKS (32, one between two numbers) and LINE ENDS (10)")
    private static void oneBlankAndOneLineEnd() {
        Desk.fault("aag  0 0 0 0 0\n", 4);
        Desk.fault("aag 0  0 0 0 0\n", 6);
        Desk.fault("aag 0 0 0 0 0 \n", 13);
        Desk.fault("aag 0 0 0 0 0\n\n", 14);
        Desk.fault("aag 1 1 0 0 0\n 2\n", 14);
        Desk.fault("aag 1 1 0 0 0\n2 \n", 15);
        Desk.fault("aag 1 0 1 0 0\n2  2\n", 16);
        Desk.fault("aag 1 0 0 0 1\n2 0\n0\n", 17);
        Desk.fault("aig  0 0 0 0 0\n", 4);
        Desk.fault("aig 0 0 0 0 0 \n", 13);
        Desk.fault("aig 0 0 0 0 0\n\n", 14);
        Desk.fault("aig 1 0 1 0 0\n 2\n", 14);
        Desk.fault("aig 0 0 0 1 0\n1 \n", 15);
        Desk.fault("aig 0 0 0 1 0\n1 1\n", 15);
        Desk.fault("aag 0 0 0 1 0\n1 1\n", 15);
    }

    @Case("so with a blank ahead of each")
    private static void fiveNumbersAtTheTop() {
        Desk.fault("aag\n", 3);
        Desk.fault("aag0 0 0 0 0\n", 3);
        Desk.fault("aag 0 0 0 0\n", 11);
        Desk.fault("aag 0 0 0 0 0 0\n", 13);
        Desk.fault("aig\n", 3);
        Desk.fault("aig0 0 0 0 0\n", 3);
        Desk.fault("aig 0 0 0 0\n", 11);
        Desk.fault("aig 0 0 0 0 0 0\n", 13);
    }

    @Case("of a number or difference that can't be, the place of its first byte, told when it is whole")
    private static void numberThatCannotBeAheadOfAWrongByte() {
        Desk.fault("aag 100x", 4);
        Desk.fault("aag 100 x", 4);
        Desk.fault("aag 9 9\n", 6);
        Desk.fault("aag 1 1 0 0 0\n3x", 14);
        Desk.fault("aag 1 1 0 0 0\n4\n", 14);
        Desk.fault("aig 100x", 4);
        Desk.fault("aig 1 0 1 0 0\n2 2x", 16);
    }

    @Case("(also a number with which the text ends)")
    private static void numberThatCannotBeAtTheEnd() {
        Desk.fault("aag 100", 4);
        Desk.fault("aag 9 9", 6);
        Desk.fault("aag 1 1 1 1 0", 12);
        Desk.fault("aag 1 1 0 0 0\n1", 14);
        Desk.fault("aag 1 1 0 0 0\n4", 14);
        Desk.fault("aag 2 2 0 0 0\n2\n2", 16);
        Desk.fault("aag 1 0 1 0 0\n2 4", 16);
        Desk.fault("aag 1 0 1 0 0\n2 2 2", 18);
        Desk.fault("aag 0 0 0 1 0\n2", 14);
        Desk.fault("aag 1 0 0 0 1\n2 0 4", 18);
        Desk.fault("aig 100", 4);
        Desk.fault("aig 10 1 1 0 1", 13);
        Desk.fault("aig 1 0 1 0 0\n4", 14);
        Desk.fault("aig 1 0 1 0 0\n2 2", 16);
        Desk.fault("aig 0 0 0 1 0\n2", 14);
    }

    /** What can be is whole as well, but the text lacks its line end: it ends too early. */
    @Case("how many there are, if it ends too early")
    private static void numberThatCanBeAtTheEnd() {
        Desk.fault("aag 99", 6);
        Desk.fault("aag 0 0 0 0 0", 13);
        Desk.fault("aag 0 0 0 1 0\n1", 15);
        Desk.fault("aag 1 0 0 0 1\n2 1 1", 19);
        Desk.fault("aig 0 0 0 0 0", 13);
        Desk.fault("aig 0 0 0 1 0\n1", 15);
    }

    @Case("the place of the first byte with which no text of that kind goes on")
    private static void theFirstOfSeveralFaults() {
        Desk.fault("aag 100 9 9 9 61\nx", 4);
        Desk.fault("aag 99 8 9 9 61\nx", 9);
        Desk.fault("aag 2 2 0 2 0\n3\n0\n9\n9\n", 14);
        Desk.fault("aag 2 2 0 2 0\n2\n0\n9\n9\n", 16);
        Desk.fault("aag 2 2 0 2 0\n2\n4\n9\n8\n", 18);
        Desk.fault("aig 1 0 1 1 0\n4 2\n4\n", 14);
        Desk.fault("aig 1 0 1 1 0\n3 2\n4\n", 16);
        Desk.fault("aig 2 0 0 0 2\n\0\3\0\5", 14);
        Desk.fault("aig 2 0 0 0 2\n\1\2\0\5", 15);
        Desk.fault("aig 2 0 0 0 2\n\1\1\0\5", 16);
    }

    @Case("Then the end, or a c (99) and anything behind it.")
    private static void theEndOfPlain() {
        Desk.fine(PLAIN);
        Desk.fine(PLAIN + "c");
        for (int b = 0; b < 256; b++) {
            Desk.fine(PLAIN + "c" + (char) b);
            if (b != 'c') {
                Desk.fault(PLAIN + (char) b, PLAIN.length());
                Desk.fault(PLAIN + (char) b + "c", PLAIN.length());
            }
        }
    }

    @Case("Then the end, or a c and anything.")
    private static void theEndOfPacked() {
        Desk.fine(PACKED);
        Desk.fine(PACKED + "c");
        for (int b = 0; b < 256; b++) {
            Desk.fine(PACKED + "c" + (char) b);
            if (b != 'c') {
                Desk.fault(PACKED + (char) b, PACKED.length());
                Desk.fault(PACKED + (char) b + "c", PACKED.length());
            }
        }
    }

    /** Then the c is a byte of a number's or a line's, which it can't be; or a difference of 99. */
    @Case("Then the end, or a c (99) and anything behind it.")
    private static void aCAheadOfTheEnd() {
        Desk.fault("aag 0 0 0 1 0\nc", 14);
        Desk.fault("aag 0 0 0 1 0\n1c", 15);
        Desk.fault("aig 0 0 0 1 0\nc", 14);
        Desk.fault("aig 1 0 0 0 1\nc", 14);
        String most = Texts.packed(8, 8, 0, 60);
        Desk.fine(most.substring(0, most.length() - 2) + "c\0");
    }

    @Case("the place of the first literal, in the text's order, whose value nothing DEFINES")
    private static void undefinedNext() {
        Desk.fault("aag 5 1 1 1 1\n2\n4 8\n8\n6 8 8\n", 18);
        Desk.fault("aag 5 1 1 1 1\n2\n4 9 1\n8\n6 8 8\n", 18);
        Desk.fault("aag 5 0 2 0 0\n2 4\n4 10\n", 20);
    }

    @Case("the place of the first literal, in the text's order, whose value nothing DEFINES")
    private static void undefinedOutput() {
        Desk.fault("aag 5 1 1 1 1\n2\n4 2\n8\n6 8 8\n", 20);
        Desk.fault("aag 5 1 1 2 1\n2\n4 2\n6\n11\n6 2 2\n", 22);
    }

    @Case("the place of the first literal, in the text's order, whose value nothing DEFINES")
    private static void undefinedLeft() {
        Desk.fault("aag 5 1 1 1 1\n2\n4 2\n6\n6 8 10\n", 24);
        Desk.fault("aag 5 1 1 1 1\n2\n4 2\n6\n6 11 2\n", 24);
    }

    @Case("the place of the first literal, in the text's order, whose value nothing DEFINES")
    private static void undefinedRight() {
        Desk.fault("aag 5 1 1 1 1\n2\n4 2\n6\n6 2 8\n", 26);
        Desk.fault("aag 5 1 1 1 1\n2\n4 2\n6\n6 2 11\n", 26);
        Desk.fault("aag 5 1 0 0 2\n2\n6 2 8\n8 4 2\n", 24);
    }

    @Case("the place of the first literal, in the text's order, whose value nothing DEFINES")
    private static void undefinedLeastAndGreatestValue() {
        Desk.fault("aag 1 0 0 1 0\n2\n", 14);
        Desk.fault("aag 1 0 0 1 0\n3\n", 14);
        Desk.fault("aag 99 0 0 1 0\n198\n", 15);
        Desk.fault("aag 99 0 0 1 0\n199\n", 15);
    }

    @Case("the place of the first literal, in the text's order, whose value nothing DEFINES")
    private static void undefinedInTheLastPlaceOfAll() {
        String full = Texts.largest();
        Desk.fine(full);
        int last = full.lastIndexOf(' ') + 1;
        Desk.fault(full.substring(0, last) + "47\n", last);
        Desk.fault(full.substring(0, last) + "2\n", last);
    }

    @Case("whose value nothing DEFINES (value 0 is fine)")
    private static void valueZeroIsFine() {
        Desk.fine("aag 5 1 2 2 1\n2\n4 0\n8 1\n0\n1\n6 0 1\n");
    }

    @Case("whose value nothing DEFINES")
    private static void definedFurtherOnIsFine() {
        Desk.fine("aag 5 0 2 1 2\n2 4\n4 6\n8\n6 8 9\n8 4 2\n");
    }

    @Case("Of a text without such a FAULT")
    private static void faultsOfTheFormComeFirst() {
        Desk.fault("aag 5 1 0 1 1\n2\n8\n6 2 2\nx", 24);
        Desk.fault("aag 5 1 0 1 1\n2\n8\n6 2 2", 23);
        Desk.fault("aag 5 1 0 1 1\n2\n8\n6 2 12\n", 22);
        Desk.fault("aag 5 1 0 0 1\n2\n6 6 12\n", 20);
        Desk.fault("aag 5 1 0 0 1\n2\n6 6 2\nx", 22);
    }

    @Case("(PLAIN ones alone)")
    private static void packedOnesHaveAllDefined() {
        Desk.fine("aig 4 1 2 2 1\n9\n4\n0\n9\n\1\0");
        Desk.fine(Texts.packed(8, 8, 8, 60));
    }

    @Case("the literal of the first gate that RESTS on itself")
    private static void restsOnItselfByItsLeft() {
        Desk.fault("aag 1 0 0 0 1\n2 2 0\n", 14);
        Desk.fault("aag 1 0 0 0 1\n2 3 0\n", 14);
    }

    @Case("the literal of the first gate that RESTS on itself")
    private static void restsOnItselfByItsRight() {
        Desk.fault("aag 1 0 0 0 1\n2 1 2\n", 14);
        Desk.fault("aag 1 0 0 0 1\n2 1 3\n", 14);
    }

    @Case("the literal of the first gate that RESTS on itself")
    private static void greatestValueRestsOnItself() {
        Desk.fault("aag 99 0 0 0 2\n2 198 1\n198 1 199\n", 23);
        Desk.fault("aag 99 0 0 0 2\n2 198 1\n198 1 2\n", 15);
        Desk.fine("aag 99 0 0 0 2\n2 198 1\n198 1 1\n");
    }

    @Case("and, as far as these are gates, on theirs")
    private static void restsOnItselfByOthers() {
        Desk.fault("aag 2 0 0 0 2\n2 4 1\n4 1 3\n", 14);
        Desk.fault("aag 3 0 0 0 3\n6 1 1\n2 4 6\n4 6 3\n", 20);
    }

    @Case("and, as far as these are gates, on theirs")
    private static void restsOnItselfBySixty() {
        StringBuilder text = new StringBuilder("aag 60 0 0 0 60\n");
        for (int k = 1; k <= 60; k++) {
            text.append(2 * k).append(' ').append(k == 60 ? 2 : 2 * k + 2).append(" 1\n");
        }
        Desk.fault(text.toString(), 16);
        int last = text.length() - "120 2 1\n".length();
        Desk.fault(text.substring(0, last) + "120 121 1\n", last);
        Desk.fine(text.substring(0, last) + "120 1 1\n");
    }

    @Case("the first gate that RESTS on itself")
    private static void aGateThatRestsOnARoundAlone() {
        Desk.fault("aag 3 0 0 0 3\n2 4 1\n4 6 1\n6 4 1\n", 20);
        Desk.fault("aag 3 0 0 0 3\n2 4 1\n4 6 1\n6 6 1\n", 26);
    }

    @Case("as far as these are gates")
    private static void roundsThroughLatchesAreFine() {
        Desk.fine("aag 2 0 1 0 1\n2 4\n4 2 3\n");
        Desk.fine("aag 2 0 2 0 0\n2 2\n4 5\n");
    }

    @Case("without that too")
    private static void undefinedComesAheadOfRounds() {
        Desk.fault("aag 3 0 0 0 2\n2 2 2\n4 0 6\n", 24);
        Desk.fault("aag 3 0 0 1 1\n6\n2 2 2\n", 14);
    }

    private static void readInTurn(String earlier, int itsFault, String later) {
        Desk desk = new Desk();
        Desk.same("earlier " + Desk.shown(earlier), desk.read(earlier), itsFault);
        Desk.same("later " + Desk.shown(later), desk.read(later), DesignTexts.NONE);
    }

    /** A text's fault is its own: no earlier text, faulty or not, is of any matter to it. */
    @Case("A text's FAULT is the place of the first byte")
    private static void faultsOfEarlierTexts() {
        // A value that nothing defined, ahead of texts that have no such value.
        readInTurn("aag 2 1 0 1 0\n2\n4\n", 16, "aig 1 1 0 1 0\n2\n");
        readInTurn("aag 2 1 0 1 0\n2\n4\n", 16, "aag 2 1 0 0 0\n2\n");
        // A gate that rests on itself, ahead of texts with fewer gates.
        readInTurn("aag 2 0 0 0 2\n2 1 1\n4 5 1\n", 20, "aag 1 0 0 0 1\n2 1 1\n");
        readInTurn("aag 2 0 0 0 2\n2 1 1\n4 5 1\n", 20, "aig 1 0 0 0 1\n\1\1");
        // A value that was a gate's, and is an input's or a latch's now.
        readInTurn("aag 2 0 0 0 1\n2 1 1\n", DesignTexts.NONE, "aag 2 1 0 0 1\n2\n4 2 2\n");
        readInTurn("aag 2 0 0 0 1\n2 1 1\n", DesignTexts.NONE, "aag 2 0 1 0 1\n2 4\n4 2 2\n");
        // Values that were defined, and are again.
        readInTurn("aag 2 2 0 0 0\n2\n4\n", DesignTexts.NONE, "aag 2 2 0 0 0\n4\n2\n");
        readInTurn("aag 100", 4, "aag 99 0 0 0 0\n");
    }

    /** The later text's only gate rests on itself, and its value was that of a second gate before. */
    @Case("the literal of the first gate that RESTS on itself")
    private static void restsOnItselfBehindAnEarlierText() {
        for (String earlier : new String[] {"aag 2 0 0 0 2\n4 1 1\n2 3 1\n", "aag 2 0 0 0 2\n4 1 1\n2 1 1\n"}) {
            Desk desk = new Desk();
            desk.read(earlier);
            desk.read(earlier);
            Desk.same("behind " + Desk.shown(earlier), desk.read("aag 1 0 0 0 1\n2 2 1\n"), 14);
        }
    }

    public static void main(String[] args) {
        Cases.runAll(FaultEdgesTest.class);
    }
}
