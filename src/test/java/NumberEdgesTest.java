/** Numbers, literals and differences inside a text: the least and the greatest, and one beyond each. */
public final class NumberEdgesTest {
    /** A plain text of one input, latch, output and gate, with these words for the five lines behind the first. */
    private static String plain(int most, String input, String latch, String output, String gate) {
        return "aag " + most + " 1 1 1 1\n" + input + "\n" + latch + "\n" + output + "\n" + gate + "\n";
    }

    private static final String TOP = "aag 99 1 1 1 1\n";
    private static final int AT = TOP.length();

    @Case("NUMBERS (digits, one to four, the first one not 0 unless it is the only one)")
    private static void aNumberOfNoDigits() {
        Desk.fault("aag ", 4);
        Desk.fault("aag  1", 4);
        Desk.fault("aag \n", 4);
        Desk.fault("aag 1 \n", 6);
        Desk.fault("aig ", 4);
        Desk.fault("aig  1", 4);
        Desk.fault("aig 0 0 0 1 0\n\n", 14);
        Desk.fault(TOP + "\n", AT);
        Desk.fault(TOP + " 2\n", AT);
    }

    @Case("NUMBERS (digits, one to four, the first one not 0 unless it is the only one)")
    private static void bytesNextToTheDigitsAreNone() {
        Desk.fault("aag /", 4);
        Desk.fault("aag :", 4);
        Desk.fault("aag 9/", 5);
        Desk.fault("aag 9:", 5);
        Desk.fault("aig /", 4);
        Desk.fault("aig :", 4);
        Desk.fault("aag \u00b9", 4);
    }

    @Case("the first one not 0 unless it is the only one")
    private static void zeroAlone() {
        Desk.fine("aag 0 0 0 1 0\n0\n");
        Desk.fine("aig 0 0 0 1 0\n0\n");
    }

    @Case("the first one not 0 unless it is the only one")
    private static void zeroAheadOfADigit() {
        Desk.fault("aag 00", 5);
        Desk.fault("aag 09 0 0 0 0\n", 5);
        Desk.fault("aag 0 01", 7);
        Desk.fault("aag 0 0 00", 9);
        Desk.fault("aag 0 0 0 08", 11);
        Desk.fault("aag 0 0 0 0 00", 13);
        Desk.fault("aag 0 0 0 1 0\n01\n", 15);
        Desk.fault("aag 1 0 1 0 0\n2 00\n", 17);
        Desk.fault("aag 1 0 1 0 0\n2 0 01\n", 19);
        Desk.fault("aag 1 0 0 0 1\n2 1 00\n", 19);
    }

    @Case("the first one not 0 unless it is the only one")
    private static void zeroAheadOfADigitInPacked() {
        Desk.fault("aig 00", 5);
        Desk.fault("aig 0 0 0 0 00", 13);
        Desk.fault("aig 0 0 0 1 0\n01\n", 15);
        Desk.fault("aig 1 0 1 0 0\n03\n", 15);
        Desk.fault("aig 1 0 1 0 0\n3 00\n", 17);
    }

    /** The second digit is a byte with which no text goes on, ahead of the number's being whole. */
    @Case("the first one not 0 unless it is the only one")
    private static void zeroAheadOfADigitWhereZeroCannotBe() {
        Desk.fault("aag 1 1 0 0 0\n02\n", 15);
        Desk.fault("aag 1 1 0 0 0\n00\n", 15);
        Desk.fault("aag 1 1 0 0 0\n0\n", 14);
        Desk.fault("aag 1 1 0 0 0\n0", 14);
    }

    @Case("(a fifth digit, and a difference's second byte of 0 or above 127, are such bytes)")
    private static void fourDigitsAreANumber() {
        Desk.fault("aag 1000 0", 4);
        Desk.fault("aag 9999", 4);
        Desk.fault("aag 9 1000 ", 6);
        Desk.fault(TOP + "1000\n", AT);
        Desk.fault(TOP + "2\n4 1000\n", AT + 4);
        Desk.fault(TOP + "2\n4 2 1000\n", AT + 6);
        Desk.fault("aig 1000 0", 4);
        Desk.fault("aig 1 0 1 0 0\n1000\n", 14);
    }

    @Case("(a fifth digit, and a difference's second byte of 0 or above 127, are such bytes)")
    private static void aFifthDigitInPlain() {
        Desk.fault("aag 10000", 8);
        Desk.fault("aag 1 10000 ", 10);
        Desk.fault("aag 1 1 99999", 12);
        Desk.fault("aag 1 1 1 12345678", 14);
        Desk.fault("aag 1 1 1 1 60000\n", 16);
        Desk.fault(TOP + "20000\n", AT + 4);
        Desk.fault(TOP + "2\n40000 2\n", AT + 6);
        Desk.fault(TOP + "2\n4 20000\n", AT + 8);
        Desk.fault(TOP + "2\n4 2 10000\n", AT + 10);
        Desk.fault(TOP + "2\n4 2\n20000\n", AT + 10);
        Desk.fault(TOP + "2\n4 2\n6\n60000 2 2\n", AT + 12);
        Desk.fault(TOP + "2\n4 2\n6\n6 20000 2\n", AT + 14);
        Desk.fault(TOP + "2\n4 2\n6\n6 2 20000\n", AT + 16);
    }

    @Case("(a fifth digit, and a difference's second byte of 0 or above 127, are such bytes)")
    private static void aFifthDigitInPacked() {
        Desk.fault("aig 10000", 8);
        Desk.fault("aig 1 1 1 1 60000\n", 16);
        Desk.fault("aig 1 0 1 0 0\n20000\n", 18);
        Desk.fault("aig 1 0 1 0 0\n2 10000\n", 20);
        Desk.fault("aig 1 0 1 1 0\n2 1\n30000\n", 22);
    }

    @Case("a literal above twice MOST and 1")
    private static void greatestLiteralInPlain() {
        Desk.fine("aag 1 1 0 1 0\n2\n3\n");
        Desk.fine("aag 0 0 0 1 0\n1\n");
        Desk.fine(plain(99, "2", "4 199", "199", "198 4 2"));
        Desk.fine(plain(99, "198", "4 6", "6", "6 199 4"));
        Desk.fine(plain(99, "198", "4 6", "6", "6 4 199"));
    }

    @Case("a literal above twice MOST and 1")
    private static void literalOneBeyondInPlain() {
        Desk.fault("aag 0 0 0 1 0\n2\n", 14);
        Desk.fault(plain(3, "8", "4 2", "2", "6 2 2"), 14);
        Desk.fault(plain(3, "2", "8 2", "2", "6 2 2"), 16);
        Desk.fault(plain(3, "2", "4 8", "2", "6 2 2"), 18);
        Desk.fault(plain(3, "2", "4 2", "8", "6 2 2"), 20);
        Desk.fault(plain(3, "2", "4 2", "2", "8 2 2"), 22);
        Desk.fault(plain(3, "2", "4 2", "2", "6 8 2"), 24);
        Desk.fault(plain(3, "2", "4 2", "2", "6 2 8"), 26);
        Desk.fault(plain(99, "200", "4 2", "2", "6 2 2"), 15);
        Desk.fault(plain(99, "2", "4 200", "2", "6 2 2"), 19);
        Desk.fault(plain(99, "2", "4 2", "200", "6 2 2"), 21);
    }

    @Case("a literal above twice MOST and 1")
    private static void greatestLiteralInPacked() {
        Desk.fine("aig 0 0 0 1 0\n1\n");
        Desk.fine("aig 1 0 1 1 0\n3\n3\n");
        Desk.fine(Texts.packed(8, 8, 1, 60).replace("\n1\n", "\n153\n"));
        Desk.fine(Texts.packed(8, 1, 0, 60).replace("\n0\n", "\n139\n"));
    }

    @Case("a literal above twice MOST and 1")
    private static void literalOneBeyondInPacked() {
        Desk.fault("aig 0 0 0 1 0\n2\n", 14);
        Desk.fault("aig 1 0 1 1 0\n4\n3\n", 14);
        Desk.fault("aig 1 0 1 1 0\n3\n4\n", 16);
        Desk.fault(Texts.packed(8, 0, 1, 60).replace("\n1\n", "\n138\n"), 16);
        Desk.fault(Texts.packed(8, 1, 0, 60).replace("\n0\n", "\n140\n"), 16);
    }

    @Case("one that should be DEFINED that is odd or 0, or was DEFINED before")
    private static void leastAndGreatestThatCanBeDefined() {
        Desk.fine("aag 99 2 0 0 0\n2\n198\n");
        Desk.fine("aag 99 0 2 0 0\n198 2\n2 198\n");
        Desk.fine("aag 99 0 0 0 2\n198 2 2\n2 1 0\n");
    }

    @Case("one that should be DEFINED that is odd or 0, or was DEFINED before")
    private static void definedIsZero() {
        Desk.fault(plain(3, "0", "4 2", "2", "6 2 2"), 14);
        Desk.fault(plain(3, "2", "0 2", "2", "6 2 2"), 16);
        Desk.fault(plain(3, "2", "4 2", "2", "0 2 2"), 22);
    }

    @Case("one that should be DEFINED that is odd or 0, or was DEFINED before")
    private static void definedIsOdd() {
        Desk.fault(plain(3, "1", "4 2", "2", "6 2 2"), 14);
        Desk.fault(plain(3, "3", "4 2", "2", "6 2 2"), 14);
        Desk.fault(plain(3, "7", "4 2", "2", "6 2 2"), 14);
        Desk.fault(plain(3, "2", "5 2", "2", "6 2 2"), 16);
        Desk.fault(plain(3, "2", "4 2", "2", "7 2 2"), 22);
        Desk.fault(plain(99, "199", "4 2", "2", "6 2 2"), 15);
    }

    @Case("one that should be DEFINED that is odd or 0, or was DEFINED before")
    private static void definedBefore() {
        Desk.fault("aag 3 2 0 0 0\n2\n2\n", 16);
        Desk.fault(plain(3, "2", "2 2", "2", "6 2 2"), 16);
        Desk.fault(plain(3, "2", "4 2", "2", "2 2 2"), 22);
        Desk.fault(plain(3, "2", "4 2", "2", "4 2 2"), 22);
        Desk.fault("aag 3 0 2 0 0\n4 4\n4 4\n", 18);
        Desk.fault("aag 3 0 0 0 2\n4 0 0\n4 1 1\n", 20);
        Desk.fault("aag 99 2 0 0 0\n198\n198\n", 19);
    }

    @Case("one that should be DEFINED that is odd or 0, or was DEFINED before")
    private static void definedInAnEarlierTextAlone() {
        Desk desk = Desk.with("aag 2 2 0 0 0\n2\n4\n");
        desk.readWell("aag 2 2 0 0 0\n4\n2\n");
        Desk.same("what an earlier text defined", desk.read("aag 2 1 0 1 0\n2\n4\n"), 16);
        Desk.same("a faulty text", desk.read("aag 9 3 0 0 0\n2\n4\n4\n"), 18);
        desk.readWell("aag 2 2 0 0 0\n2\n4\n");
    }

    @Case("what is at first that is above 1")
    private static void atFirstInPlain() {
        Desk.fine("aag 1 0 1 0 0\n2 2\n");
        Desk.fine("aag 1 0 1 0 0\n2 2 0\n");
        Desk.fine("aag 1 0 1 0 0\n2 2 1\n");
        Desk.fault("aag 1 0 1 0 0\n2 2 2\n", 18);
        Desk.fault("aag 1 0 1 0 0\n2 2 2", 18);
        Desk.fault("aag 1 0 1 0 0\n2 2 10\n", 18);
        Desk.fault("aag 1 0 1 0 0\n2 2 9999\n", 18);
    }

    @Case("what is at first that is above 1")
    private static void atFirstInPacked() {
        Desk.fine("aig 1 0 1 0 0\n2\n");
        Desk.fine("aig 1 0 1 0 0\n2 0\n");
        Desk.fine("aig 1 0 1 0 0\n2 1\n");
        Desk.fault("aig 1 0 1 0 0\n2 2\n", 16);
        Desk.fault("aig 1 0 1 0 0\n2 2", 16);
        Desk.fault("aig 1 0 1 0 0\n2 10\n", 16);
    }

    @Case("and perhaps what it is at first (0 if it isn't told)")
    private static void atFirstIsToldOnceAtMost() {
        Desk.same("not told", Desk.with("aag 1 0 1 0 0\n2 2\n").x().has(5, 0), 0);
        Desk.same("told", Desk.with("aag 1 0 1 0 0\n2 2 1\n").x().has(5, 0), 1);
        Desk.same("not told", Desk.with("aig 1 0 1 0 0\n2\n").x().has(5, 0), 0);
        Desk.same("told", Desk.with("aig 1 0 1 0 0\n2 1\n").x().has(5, 0), 1);
        Desk.fault("aag 1 0 1 0 0\n2 2 1 1\n", 19);
        Desk.fault("aag 1 0 1 0 0\n2 2 \n", 18);
        Desk.fault("aig 1 0 1 0 0\n2 1 1\n", 17);
        Desk.fault("aig 1 0 1 0 0\n2 \n", 16);
    }

    @Case("a first difference of 0 or above the gate's literal")
    private static void firstDifference() {
        String top = "aig 3 2 0 0 1\n";
        Desk.fault(top + "\0\0", 14);
        Desk.fault(top + "\0", 14);
        Desk.fine(top + "\1\0");
        Desk.fine(top + "\5\0");
        Desk.fine(top + "\6\0");
        Desk.fault(top + "\7\0", 14);
        Desk.fault(top + "\7", 14);
        Desk.fault(top + "\177\0", 14);
    }

    @Case("a second one above the left literal")
    private static void secondDifference() {
        String top = "aig 3 2 0 0 1\n";
        Desk.fine(top + "\2\0");
        Desk.fine(top + "\2\3");
        Desk.fine(top + "\2\4");
        Desk.fault(top + "\2\5", 15);
        Desk.fine(top + "\1\5");
        Desk.fault(top + "\1\6", 15);
        Desk.fine(top + "\6\0");
        Desk.fault(top + "\6\1", 15);
        Desk.fault(top + "\1\177", 15);
    }

    /** The last gate's literal is 152, and ahead of its differences there is all else. */
    private static String uptoLastGate() {
        String text = Texts.packed(8, 8, 0, 60);
        return text.substring(0, text.length() - 2);
    }

    private static void lastGate(String differences, int left, int right) {
        Desk desk = Desk.with(uptoLastGate() + differences);
        Desk.same("left of " + Desk.shown(differences), desk.x().has(6, 59), left);
        Desk.same("right of " + Desk.shown(differences), desk.x().has(7, 59), right);
    }

    @Case("each 7 bits a byte, the lowest first, 128 more in each but the last one")
    private static void differencesOfOneAndTwoBytes() {
        lastGate("\177\31", 25, 0);
        lastGate("\u0080\1\30", 24, 0);
        lastGate("\u0098\1\0", 0, 0);
        lastGate("\1\177", 151, 24);
        lastGate("\1\u0080\1", 151, 23);
        lastGate("\1\u0097\1", 151, 0);
    }

    @Case("a first difference of 0 or above the gate's literal, a second one above the left literal")
    private static void differencesOfTwoBytesThatCannotBe() {
        String start = uptoLastGate();
        int at = start.length();
        Desk.fault(start + "\u0099\1\0", at);
        Desk.fault(start + "\1\u0098\1", at + 1);
        Desk.fault(start + "\u0080\2\0", at);
        Desk.fault(start + "\u00ff\177\0", at);
        Desk.fault(start + "\1\u00ff\177", at + 1);
        Desk.fault("aig 1 0 0 0 1\n\u0081\1\0", 14);
    }

    @Case("two bytes at most, the last one not 0 unless it is the only one")
    private static void secondByteOfADifference() {
        String start = uptoLastGate();
        int at = start.length();
        Desk.fault(start + "\u0081\0\0", at + 1);
        Desk.fault(start + "\u0081\u0080\1\0", at + 1);
        Desk.fault(start + "\u0081\u00ff", at + 1);
        Desk.fault(start + "\1\u0081\0", at + 2);
        Desk.fault(start + "\1\u0081\u0080\1", at + 2);
        Desk.fault(start + "\1\u0081\u00ff", at + 2);
        Desk.fault("aig 1 0 0 0 1\n\u0080\0", 15);
        Desk.fault("aig 1 0 0 0 1\n\u0080\u0080", 15);
    }

    @Case("told when it is whole")
    private static void halfADifferenceEndsTooEarly() {
        String start = uptoLastGate();
        int at = start.length();
        Desk.fault(start, at);
        Desk.fault(start + "\u00ff", at + 1);
        Desk.fault(start + "\1", at + 1);
        Desk.fault(start + "\1\u00ff", at + 2);
        Desk.fault("aig 1 0 0 0 1\n\u00ff", 15);
    }

    public static void main(String[] args) {
        Cases.runAll(NumberEdgesTest.class);
    }
}
