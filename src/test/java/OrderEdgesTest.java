/** Term 3 and promises 6, 9, 10 and 11 at their edges: order, reset, cycle and latches. */
public final class OrderEdgesTest {
    private static void inOrder(String text, int due) {
        Desk.same("in order: " + Desk.shown(text), Desk.with(text).x().about(6), due);
    }

    private static void ordered(String text, String due) {
        Desk desk = Desk.with(text);
        desk.x().order();
        Desk.same("in order then: " + Desk.shown(text), desk.x().about(6), 1);
        Desk.same("order of " + Desk.shown(text), desk.write(0), due);
    }

    @Case("MOST is as many as they are")
    private static void mostIsAsManyOrMore() {
        inOrder("aag 0 0 0 1 0\n1\n", 1);
        inOrder("aag 1 0 0 1 0\n1\n", 0);
        inOrder("aag 3 1 1 0 1\n2\n4 6\n6 4 2\n", 1);
        inOrder("aag 4 1 1 0 1\n2\n4 6\n6 4 2\n", 0);
        inOrder(Texts.plain(76, 8, 8, 8, 60), 1);
        inOrder(Texts.plain(77, 8, 8, 8, 60), 0);
        inOrder(Texts.packed(8, 8, 8, 60), 1);
    }

    @Case("the literals that are DEFINED by inputs, latches and gates are 2, 4, 6, .. in this order")
    private static void definedCountUp() {
        inOrder("aag 3 1 1 0 1\n4\n2 6\n6 4 2\n", 0);
        inOrder("aag 3 1 1 0 1\n2\n6 2\n4 3 2\n", 0);
        inOrder("aag 3 1 1 0 1\n6\n4 2\n2 1 0\n", 0);
        inOrder("aag 2 0 2 0 0\n4 2\n2 4\n", 0);
        inOrder("aag 2 0 2 0 0\n2 2\n4 4\n", 1);
        inOrder("aag 2 0 0 0 2\n4 1 1\n2 1 1\n", 0);
        inOrder("aag 2 0 0 0 2\n2 1 1\n4 1 1\n", 1);
    }

    @Case("each gate's left literal is below its own and not below the right one")
    private static void leftIsBelowItsOwn() {
        inOrder("aag 2 1 0 0 1\n2\n4 3 3\n", 1);
        inOrder("aag 2 0 0 0 2\n2 4 0\n4 1 1\n", 0);
        inOrder("aag 2 0 0 0 2\n2 5 0\n4 1 1\n", 0);
        inOrder("aag 2 0 0 0 2\n2 1 1\n4 3 3\n", 1);
    }

    @Case("each gate's left literal is below its own and not below the right one")
    private static void leftIsNotBelowTheRight() {
        inOrder("aag 2 1 0 0 1\n2\n4 2 2\n", 1);
        inOrder("aag 2 1 0 0 1\n2\n4 3 2\n", 1);
        inOrder("aag 2 1 0 0 1\n2\n4 2 3\n", 0);
        inOrder("aag 2 1 0 0 1\n2\n4 0 0\n", 1);
        inOrder("aag 2 1 0 0 1\n2\n4 0 1\n", 0);
    }

    @Case("MOST is as many as these are")
    private static void orderOfNothing() {
        ordered("aag 0 0 0 0 0\n", "aag 0 0 0 0 0\n");
        ordered("aag 99 0 0 2 0\n1\n0\n", "aag 0 0 0 2 0\n1\n0\n");
        Desk desk = new Desk();
        desk.x().order();
        Desk.same("a new object's", desk.seen(), "0 0 0 0 0 0 1 | | | | | | | | latches 0");
    }

    @Case("values are numbered anew, inputs, latches, then gates")
    private static void numberedAnew() {
        ordered("aag 99 1 1 3 1\n198\n2 199 1\n3\n198\n101\n100 2 198\n",
            "aag 3 1 1 3 1\n2\n4 3 1\n5\n2\n7\n6 4 2\n");
        ordered("aag 3 1 1 0 1\n6\n4 2\n2 6 4\n", "aag 3 1 1 0 1\n2\n4 6\n6 4 2\n");
        ordered("aag 4 2 2 0 0\n8\n6\n4 2\n2 9\n", "aag 4 2 2 0 0\n2\n4\n6 8\n8 3\n");
    }

    @Case("whose left and right values have such ones or are 0")
    private static void gatesOfValueZero() {
        ordered("aag 2 0 0 1 2\n2\n2 4 4\n4 0 1\n", "aag 2 0 0 1 2\n4\n2 1 0\n4 2 2\n");
    }

    @Case("again and again the first one (by its number as a gate) that has no new number")
    private static void theFirstOneAgainAndAgain() {
        // Gate 1 is ready at once, then gate 0, which waited for it, ahead of gate 2.
        ordered("aag 4 1 0 0 3\n2\n4 6 2\n6 2 2\n8 2 3\n", "aag 4 1 0 0 3\n2\n4 2 2\n6 4 2\n8 3 2\n");
        // Gate 2 frees gate 0 alone; gate 1 waits for gate 0 as well as for gate 2.
        ordered("aag 4 1 0 0 3\n2\n4 8 2\n6 8 4\n8 2 2\n", "aag 4 1 0 0 3\n2\n4 2 2\n6 4 2\n8 6 4\n");
        ordered("aag 4 1 0 0 3\n2\n4 2 6\n6 2 8\n8 2 2\n", "aag 4 1 0 0 3\n2\n4 2 2\n6 4 2\n8 6 2\n");
    }

    @Case("each one's left literal is the greater one then")
    private static void theGreaterOneIsLeft() {
        ordered("aag 2 1 0 0 1\n2\n4 2 3\n", "aag 2 1 0 0 1\n2\n4 3 2\n");
        ordered("aag 2 1 0 0 1\n2\n4 1 3\n", "aag 2 1 0 0 1\n2\n4 3 1\n");
        ordered("aag 3 2 0 0 1\n4\n2\n6 4 2\n", "aag 3 2 0 0 1\n2\n4\n6 4 2\n");
        ordered("aag 3 2 0 0 1\n4\n2\n6 2 5\n", "aag 3 2 0 0 1\n2\n4\n6 4 3\n");
        ordered("aag 3 2 0 0 1\n4\n2\n6 2 2\n", "aag 3 2 0 0 1\n2\n4\n6 4 4\n");
    }

    @Case("Gates are numbered likewise as gates")
    private static void orderOfAFullDesign() {
        Desk desk = Desk.with(Texts.largest());
        desk.x().order();
        Desk.same("MOST", desk.x().about(0), 76);
        Desk.same("in order", desk.x().about(6), 1);
        for (int k = 0; k < 60; k++) {
            Desk.same("gate " + k, desk.x().has(3, k), 34 + 2 * k);
        }
        // The last gate of the text comes first; each later one rests on the one ahead of it.
        Desk.same("left of the first", desk.x().has(6, 0), 11);
        Desk.same("right of the first", desk.x().has(7, 0), 2);
        Desk.same("left of the last", desk.x().has(6, 59), 150);
        Desk.same("right of the last", desk.x().has(7, 59), 5);
        Desk.same("the first output", desk.x().has(2, 0), 153);
        Desk.same("the first latch's next", desk.x().has(4, 0), 2);
    }

    @Case("The design is put in ORDER")
    private static void orderOfADesignInOrder() {
        Desk desk = Desk.with("aag 3 1 1 1 1\n2\n4 7 1\n5\n6 4 3\n");
        String before = desk.seen();
        desk.x().order();
        Desk.same("stays", desk.seen(), before);
        desk.x().order();
        Desk.same("stays again", desk.seen(), before);
    }

    @Case("(It means the same; latches stay as they are.)")
    private static void orderLeavesLatches() {
        Desk desk = Desk.with("aag 9 1 2 1 1\n8\n6 8 1\n4 10\n10\n10 6 9\n");
        desk.x().cycle(0);
        Desk.same("as they are", desk.x().latches(), 2);
        desk.x().order();
        Desk.same("as they are still", desk.x().latches(), 2);
        Desk.same("outputs", desk.x().cycle(1), 0);
        Desk.same("latches", desk.x().latches(), 1);
        desk.x().reset();
        Desk.same("at first", desk.x().latches(), 1);
    }

    @Case("5 bytes of the text")
    private static void orderLeavesTheText() {
        Desk desk = Desk.with("aag 9 0 0 1 0\n1\n");
        desk.put("aag 0 0 0 0 0\n");
        desk.x().order();
        Desk.same("bytes", desk.x().about(5), 14);
        Desk.same("read", desk.x().read(), DesignTexts.NONE);
    }

    /** Value 0 stays 0, whatever the object read and did before. */
    @Case("whose left and right values have such ones or are 0")
    private static void orderOfALaterDesign() {
        Desk desk = Desk.with("aag 9 1 1 2 1\n8\n2 1\n0\n1\n4 0 1\n");
        desk.readWell("aag 9 1 1 2 1\n6\n4 0\n1\n0\n8 0 7\n");
        desk.x().order();
        Desk.same("order", desk.write(0), "aag 3 1 1 2 1\n2\n4 0\n1\n0\n6 3 0\n");
    }

    @Case("Latches are as at first.")
    private static void resetOfNoLatchesAndOfEight() {
        Desk none = new Desk();
        none.x().reset();
        Desk.same("none", none.x().latches(), 0);
        Desk eight = Desk.with("aag 8 0 8 0 0\n2 3 1\n4 5\n6 7 1\n8 9\n10 11 1\n12 13\n14 15 1\n16 17 1\n");
        Desk.same("at first", eight.x().latches(), 0xd5);
        eight.x().cycle(0);
        Desk.same("the opposite", eight.x().latches(), 0x2a);
        eight.x().reset();
        Desk.same("at first again", eight.x().latches(), 0xd5);
        eight.x().reset();
        Desk.same("twice", eight.x().latches(), 0xd5);
    }

    @Case("inputs as bits, input 0 the lowest (further bits count for nothing); outputs likewise")
    private static void cycleOfOneInput() {
        Desk desk = Desk.with("aag 1 1 0 2 0\n2\n2\n3\n");
        Desk.same("0", desk.x().cycle(0), 2);
        Desk.same("1", desk.x().cycle(1), 1);
        Desk.same("2", desk.x().cycle(2), 2);
        Desk.same("all", desk.x().cycle(-1), 1);
        Desk.same("all but the lowest", desk.x().cycle(-2), 2);
        Desk.same("the least", desk.x().cycle(Integer.MIN_VALUE), 2);
        Desk.same("the most", desk.x().cycle(Integer.MAX_VALUE), 1);
    }

    @Case("inputs as bits, input 0 the lowest (further bits count for nothing); outputs likewise")
    private static void cycleOfEightInputs() {
        Desk desk = Desk.with("aag 8 8 0 8 0\n2\n4\n6\n8\n10\n12\n14\n16\n2\n4\n6\n8\n10\n12\n14\n16\n");
        for (int bits = 1; bits < 256; bits <<= 1) {
            Desk.same("one bit", desk.x().cycle(bits), bits);
            Desk.same("all but one", desk.x().cycle(~bits), 255 - bits);
        }
        Desk.same("a ninth bit", desk.x().cycle(256), 0);
        Desk.same("the highest bit", desk.x().cycle(Integer.MIN_VALUE), 0);
    }

    @Case("(further bits count for nothing)")
    private static void cycleOfNoInputs() {
        Desk desk = Desk.with("aag 1 0 1 3 0\n2 2 1\n0\n1\n2\n");
        Desk.same("none", desk.x().cycle(0), 6);
        Desk.same("all", desk.x().cycle(-1), 6);
    }

    @Case("outputs tell theirs; then latches have what they are next")
    private static void outputsAheadOfLatches() {
        Desk desk = Desk.with("aag 2 1 1 1 0\n2\n4 2\n4\n");
        Desk.same("as it was", desk.x().cycle(1), 0);
        Desk.same("as the input was", desk.x().cycle(0), 1);
        Desk.same("as the input was", desk.x().cycle(0), 0);
    }

    @Case("then latches have what they are next")
    private static void latchesChangeAtOnce() {
        Desk desk = Desk.with("aag 3 0 3 0 0\n2 4 1\n4 6\n6 2\n");
        int[] due = {1, 4, 2, 1};
        for (int bits : due) {
            Desk.same("a ring of three", desk.x().latches(), bits);
            desk.x().cycle(0);
        }
    }

    /** All 60 gates in a row, the last one of the text first. */
    @Case("A CYCLE: with values for inputs, and those that latches have, outputs tell theirs")
    private static void cycleOfAFullDesign() {
        Desk desk = Desk.with(Texts.largest());
        for (int round = 0; round < 2; round++) {
            // Outputs: opposite, then like, of gates 0, 1, 2, 3 of the text.
            desk.x().reset();
            Desk.same("latches at first", desk.x().latches(), 255);
            Desk.same("no input", desk.x().cycle(0), 0b01010101);
            Desk.same("latches then", desk.x().latches(), 0);
            Desk.same("input 0", desk.x().cycle(1), 0b10101010);
            Desk.same("latches then", desk.x().latches(), 1);
            Desk.same("all inputs", desk.x().cycle(-1), 0b01010101);
            Desk.same("latches then", desk.x().latches(), 255);
            desk.x().order();
        }
    }

    @Case("The values of latches as bits, as they are.")
    private static void latchesOfEachNumber() {
        for (int k = 0; k < 8; k++) {
            StringBuilder text = new StringBuilder("aag 8 0 8 0 0\n");
            for (int latch = 0; latch < 8; latch++) {
                text.append(2 * latch + 2).append(latch == k ? " 1 1\n" : " 0\n");
            }
            Desk desk = Desk.with(text.toString());
            Desk.same("latch " + k, desk.x().latches(), 1 << k);
            desk.x().cycle(0);
            Desk.same("latch " + k + " later", desk.x().latches(), 1 << k);
        }
        Desk.same("a new object", new Desk().x().latches(), 0);
    }

    public static void main(String[] args) {
        Cases.runAll(OrderEdgesTest.class);
    }
}
