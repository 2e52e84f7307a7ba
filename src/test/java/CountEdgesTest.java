/** The counts and MOST at the top of a text: the smallest and the largest that can be, and one beyond each. */
public final class CountEdgesTest {
    private static void has(String text, int what, int due) {
        Desk.same("about " + what + " of " + Desk.shown(text), Desk.with(text).x().about(what), due);
    }

    @Case("A DESIGN has a number MOST (0 .. 99)")
    private static void mostIsZeroInPlain() {
        has("aag 0 0 0 0 0\n", 0, 0);
    }

    @Case("A DESIGN has a number MOST (0 .. 99)")
    private static void mostIsZeroInPacked() {
        has("aig 0 0 0 0 0\n", 0, 0);
    }

    @Case("A DESIGN has a number MOST (0 .. 99)")
    private static void mostBelowZeroIsNoNumber() {
        Desk.fault("aag -1 0 0 0 0\n", 4);
        Desk.fault("aig -1 0 0 0 0\n", 4);
    }

    @Case("A DESIGN has a number MOST (0 .. 99)")
    private static void mostIsNinetyNineInPlain() {
        has("aag 99 0 0 0 0\n", 0, 99);
        has(Texts.plain(99, 8, 8, 8, 60), 0, 99);
    }

    @Case("MOST above 99")
    private static void mostIsHundredInPlain() {
        Desk.fault("aag 100 0 0 0 0\n", 4);
        Desk.fault("aag 100", 4);
    }

    @Case("MOST above 99")
    private static void mostIsHundredInPacked() {
        Desk.fault("aig 100 8 8 8 60\n", 4);
        Desk.fault("aig 100", 4);
    }

    @Case("MOST above 99")
    private static void mostOfFourDigitsIsWholeFirst() {
        Desk.fault("aag 9999 0 0 0 0\n", 4);
        Desk.fault("aig 9999", 4);
    }

    @Case("(PACKED: not as many)")
    private static void mostIsSeventySixInPackedAtMost() {
        has(Texts.packed(8, 8, 8, 60), 0, 76);
        Desk.fault("aig 77 8 8 8 60\n", 13);
        Desk.fault("aig 99 8 8 8 60\n", 13);
    }

    @Case("up to eight INPUTS")
    private static void noInputs() {
        has(Texts.plain(3, 0, 1, 1, 1), 1, 0);
        has(Texts.packed(0, 1, 1, 1), 1, 0);
    }

    @Case("up to eight INPUTS")
    private static void eightInputs() {
        has(Texts.plain(8, 8, 0, 0, 0), 1, 8);
        has(Texts.packed(8, 0, 0, 0), 1, 8);
    }

    @Case("more than eight")
    private static void nineInputs() {
        Desk.fault("aag 99 9 0 0 0\n", 7);
        Desk.fault("aag 99 9", 7);
        Desk.fault("aig 9 9 0 0 0\n", 6);
        Desk.fault("aig 9 9", 6);
    }

    @Case("eight LATCHES")
    private static void noLatches() {
        has(Texts.plain(3, 1, 0, 1, 1), 2, 0);
        has(Texts.packed(1, 0, 1, 1), 2, 0);
    }

    @Case("eight LATCHES")
    private static void eightLatches() {
        has(Texts.plain(8, 0, 8, 0, 0), 2, 8);
        has(Texts.packed(0, 8, 0, 0), 2, 8);
    }

    @Case("more than eight")
    private static void nineLatches() {
        Desk.fault("aag 99 0 9 0 0\n", 9);
        Desk.fault("aag 99 0 9", 9);
        Desk.fault("aig 9 0 9 0 0\n", 8);
        Desk.fault("aig 9 0 9", 8);
    }

    @Case("eight OUTPUTS")
    private static void noOutputs() {
        has(Texts.plain(3, 1, 1, 0, 1), 3, 0);
        has(Texts.packed(1, 1, 0, 1), 3, 0);
    }

    @Case("eight OUTPUTS")
    private static void eightOutputs() {
        has(Texts.plain(0, 0, 0, 8, 0), 3, 8);
        has(Texts.packed(0, 0, 8, 0), 3, 8);
    }

    @Case("more than eight")
    private static void nineOutputs() {
        Desk.fault("aag 99 0 0 9 0\n", 11);
        Desk.fault("aag 99 0 0 9", 11);
        Desk.fault("aig 0 0 0 9 0\n", 10);
        Desk.fault("aig 0 0 0 9", 10);
    }

    @Case("and 60 GATES")
    private static void noGates() {
        has(Texts.plain(3, 1, 1, 1, 0), 4, 0);
        has(Texts.packed(1, 1, 1, 0), 4, 0);
    }

    @Case("and 60 GATES")
    private static void sixtyGates() {
        has(Texts.plain(60, 0, 0, 0, 60), 4, 60);
        has(Texts.packed(0, 0, 0, 60), 4, 60);
    }

    @Case("or 60")
    private static void sixtyOneGates() {
        Desk.fault("aag 99 0 0 0 61\n", 13);
        Desk.fault("aag 99 0 0 0 61", 13);
        Desk.fault("aig 61 0 0 0 61\n", 13);
        Desk.fault("aig 61 0 0 0 61", 13);
    }

    @Case("if inputs, latches and gates are more than MOST")
    private static void asManyAsMostInPlain() {
        Desk.fine(Texts.plain(3, 1, 1, 0, 1));
        Desk.fine(Texts.plain(76, 8, 8, 8, 60));
        Desk.fine(Texts.plain(99, 8, 8, 8, 60));
    }

    @Case("if inputs, latches and gates are more than MOST")
    private static void oneMoreThanMostInPlain() {
        Desk.fault("aag 2 1 1 0 1\n", 12);
        Desk.fault("aag 2 1 1 0 1", 12);
        Desk.fault("aag 75 8 8 8 60\n", 13);
        Desk.fault("aag 59 0 0 0 60\n", 13);
        Desk.fault("aag 0 0 0 0 1\n", 12);
    }

    @Case("(PACKED: not as many)")
    private static void oneMoreThanMostInPacked() {
        Desk.fault("aig 2 1 1 0 1\n", 12);
        Desk.fault("aig 75 8 8 8 60\n", 13);
        Desk.fault("aig 0 0 0 0 1", 12);
    }

    @Case("(PACKED: not as many)")
    private static void oneFewerThanMostInPacked() {
        Desk.fault("aig 4 1 1 0 1\n", 12);
        Desk.fault("aig 77 8 8 8 60\n", 13);
        Desk.fault("aig 1 0 0 0 0", 12);
    }

    @Case("(not ahead of it, though none could be right any more)")
    private static void notAheadOfTheNumberOfGates() {
        Desk.fault("aag 0 8 8 8 0\n", 12);
        Desk.fault("aag 0 8 8 8 ", 12);
        Desk.fault("aag 0 8 8 8", 11);
        Desk.fault("aag 0 8 8 9 0\n", 10);
        Desk.fault("aag 0 8 9 0 0\n", 8);
        Desk.fault("aag 0 1 0 0 x", 12);
        Desk.fault("aag 0 8\n", 7);
        Desk.fault("aig 0 8 8 8 0\n", 12);
        Desk.fault("aig 0 8 8 8 ", 12);
        Desk.fault("aig 0 8 8 9 0\n", 10);
        Desk.fault("aig 99 0 0 0", 12);
    }

    @Case("if inputs, latches and gates are more than MOST (PACKED: not as many)")
    private static void outputsAreNotInTheSum() {
        has(Texts.plain(1, 1, 0, 8, 0), 3, 8);
        has(Texts.packed(1, 0, 8, 0), 3, 8);
    }

    private static void lastOnes(Desk desk, int[] due) {
        int[] last = {7, 7, 7, 59, 7, 7, 59, 59};
        for (int kind = 0; kind < 8; kind++) {
            Desk.same("last of kind " + kind, desk.x().has(kind, last[kind]), due[kind]);
        }
    }

    @Case("up to eight INPUTS, eight LATCHES, eight OUTPUTS and 60 GATES")
    private static void largestPlainDesign() {
        lastOnes(Desk.with(Texts.largest()), new int[] {198, 182, 160, 48, 198, 1, 184, 193});
    }

    @Case("up to eight INPUTS, eight LATCHES, eight OUTPUTS and 60 GATES")
    private static void largestPackedDesign() {
        lastOnes(Desk.with(Texts.packed(8, 8, 8, 60)), new int[] {16, 32, 1, 152, 0, 0, 151, 151});
    }

    public static void main(String[] args) {
        Cases.runAll(CountEdgesTest.class);
    }
}
