/** "A call that throws changes nothing.": each refused call, with all that later calls show compared with a twin's. */
public final class RefusalsTest {
    /** A text of which the last part is not put yet when the refused call comes. */
    private static final String LATER = "aag 2 1 1 1 0\n2\n4 2 1\n5\nc";

    /** A design with a cycle behind it, something written, and a text that goes on. */
    private static Desk busy(boolean inOrder, int textBytes) {
        Desk desk = Desk.with("aag 7 2 2 2 2\n2\n4\n6 12 1\n8 7\n10\n13\n10 4 2\n12 6 11\n");
        if (inOrder) {
            desk.x().order();
        }
        desk.x().cycle(3);
        desk.x().write(0);
        desk.put(LATER + "c".repeat(textBytes - LATER.length()));
        return desk;
    }

    private static String shownLater(Desk desk) {
        StringBuilder all = new StringBuilder(desk.seen());
        // Of a desk that has few calls left, after a full text, not each byte can be asked for.
        int step = desk.callsLeft() > 200 ? 1 : 7;
        for (int k = 0; k < 56; k += step) {
            all.append(' ').append(desk.x().written(k));
        }
        all.append(" cycle ").append(desk.x().cycle(2)).append(' ').append(desk.x().latches());
        desk.x().reset();
        all.append(" reset ").append(desk.x().latches());
        all.append(" write ").append(desk.x().write(0));
        all.append(" read ").append(desk.x().read()).append(' ').append(desk.seen());
        return all.toString();
    }

    /** A refused call of a busy desk. */
    interface Refused {
        int call(Desk desk);
    }

    private static void refused(String what, Class<? extends RuntimeException> due, int textBytes, Refused call) {
        for (boolean inOrder : new boolean[] {false, true}) {
            Desk desk = busy(inOrder, textBytes);
            for (int times = 0; times < 2; times++) {
                Desk.throwing(what, due, () -> call.call(desk));
            }
            Desk.same("later, after " + what, shownLater(desk), shownLater(busy(inOrder, textBytes)));
        }
    }

    @Case("IllegalArgumentException if many is not 1 .. 4")
    private static void putOfZero() {
        refused("put(0, 97)", Desk.ARGUMENT, 30, desk -> desk.x().put(0, 97));
        refused("put(-1, 97)", Desk.ARGUMENT, 30, desk -> desk.x().put(-1, 97));
    }

    @Case("IllegalArgumentException if many is not 1 .. 4")
    private static void putOfFive() {
        refused("put(5, 97)", Desk.ARGUMENT, 30, desk -> desk.x().put(5, 97));
        refused("put(5, 97) of a full text", Desk.ARGUMENT, 1500, desk -> desk.x().put(5, 97));
    }

    @Case("UnsupportedOperationException if there would be more than 1500")
    private static void putBeyondTheFullText() {
        refused("put(1, 0) of 1500", Desk.UNSUPPORTED, 1500, desk -> desk.x().put(1, 0));
        refused("put(4, 0) of 1497", Desk.UNSUPPORTED, 1497, desk -> desk.x().put(4, 0));
    }

    @Case("IllegalArgumentException for another kind; NoSuchElementException if there is no such one")
    private static void hasOfAnotherKind() {
        refused("has(-1, 0)", Desk.ARGUMENT, 30, desk -> desk.x().has(-1, 0));
        refused("has(8, 0)", Desk.ARGUMENT, 30, desk -> desk.x().has(8, 0));
    }

    @Case("NoSuchElementException if there is no such one")
    private static void hasOfNoSuchOne() {
        for (int kind = 0; kind < 8; kind++) {
            int asked = kind;
            refused("has(" + kind + ", -1)", Desk.MISSING, 30, desk -> desk.x().has(asked, -1));
            refused("has(" + kind + ", 2)", Desk.MISSING, 30, desk -> desk.x().has(asked, 2));
        }
    }

    @Case("IllegalArgumentException for another kind; IllegalStateException for PACKED if it is not in ORDER")
    private static void writeOfAnotherKind() {
        refused("write(-1)", Desk.ARGUMENT, 30, desk -> desk.x().write(-1));
        refused("write(2)", Desk.ARGUMENT, 30, desk -> desk.x().write(2));
    }

    @Case("IllegalStateException for PACKED if it is not in ORDER")
    private static void writePackedWithoutOrder() {
        Desk desk = busy(false, 30);
        Desk.throwing("write(1)", Desk.STATE, () -> desk.x().write(1));
        Desk.same("later, after write(1)", shownLater(desk), shownLater(busy(false, 30)));
    }

    /** After a packed text was written, a refused one leaves its bytes. */
    @Case("IllegalStateException for PACKED if it is not in ORDER")
    private static void writePackedWithoutOrderAfterPacked() {
        Desk desk = Desk.with("aig 1 0 0 1 1\n3\n\1\1");
        Desk.same("packed", desk.x().write(1), 18);
        desk.readWell("aag 9 0 0 0 0\n");
        Desk.throwing("write(1)", Desk.STATE, () -> desk.x().write(1));
        Desk.same("the packed one's second byte", desk.x().written(1), (int) 'i');
        Desk.same("its last byte", desk.x().written(17), 1);
        Desk.same("behind its end", desk.x().written(18), DesignTexts.NONE);
    }

    @Case("IndexOutOfBoundsException if k is below 0")
    private static void writtenBelowZero() {
        refused("written(-1)", Desk.INDEX, 30, desk -> desk.x().written(-1));
        refused("written(least)", Desk.INDEX, 30, desk -> desk.x().written(Integer.MIN_VALUE));
    }

    /** A new object refuses the same calls, and is a new one still. */
    @Case("A design with MOST 0 and nothing else; no text, nothing written.")
    private static void refusalsOfANewObject() {
        Desk desk = new Desk();
        Desk.throwing("put(0, 0)", Desk.ARGUMENT, () -> desk.x().put(0, 0));
        Desk.throwing("has(0, 0)", Desk.MISSING, () -> desk.x().has(0, 0));
        Desk.throwing("has(8, 0)", Desk.ARGUMENT, () -> desk.x().has(8, 0));
        Desk.throwing("write(2)", Desk.ARGUMENT, () -> desk.x().write(2));
        Desk.throwing("written(-1)", Desk.INDEX, () -> desk.x().written(-1));
        Desk.same("a new object", desk.seen(), "0 0 0 0 0 0 1 | | | | | | | | latches 0");
        Desk.same("nothing written", desk.x().written(0), DesignTexts.NONE);
        Desk.same("no text", desk.x().read(), 0);
    }

    public static void main(String[] args) {
        Cases.runAll(RefusalsTest.class);
    }
}
