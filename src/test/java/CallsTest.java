/** An object's 512 calls: the last of them is answered like the first, whatever the calls before it were. */
public final class CallsTest {
    /** A counter of eight latches: a latch changes if all those below it are 1. */
    private static String counter() {
        StringBuilder text = new StringBuilder("aag 29 0 8 0 21\n");
        StringBuilder gates = new StringBuilder();
        int gate = 18;
        int carry = 2;
        text.append("2 3\n");
        for (int latch = 4; latch <= 16; latch += 2) {
            // Three ANDs change the latch by the carry; the carry goes on as the first of them.
            int both = gate;
            int neither = gate + 2;
            int changed = gate + 4;
            gates.append(both).append(' ').append(latch).append(' ').append(carry).append('\n');
            gates.append(neither).append(' ').append(latch + 1).append(' ').append(carry + 1).append('\n');
            gates.append(changed).append(' ').append(both + 1).append(' ').append(neither + 1).append('\n');
            text.append(latch).append(' ').append(changed).append('\n');
            carry = both;
            gate += 6;
        }
        return text.append(gates).toString();
    }

    @Case("An object is used for at most 512 calls after it has been made")
    private static void cyclesToTheLastCall() {
        Desk desk = Desk.with(counter());
        int cycles = 0;
        while (desk.callsLeft() > 1) {
            Desk.same("no outputs", desk.x().cycle(cycles), 0);
            cycles++;
        }
        Desk.same("the counter has gone round", cycles > 256, true);
        Desk.same("the last call", desk.x().latches(), cycles % 256);
    }

    @Case("An object is used for at most 512 calls after it has been made")
    private static void readsToTheLastCall() {
        Desk desk = Desk.with("aag 0 0 0 1 0\n1\n");
        while (desk.callsLeft() > 1) {
            Desk.same("read of nothing", desk.x().read(), 0);
        }
        Desk.same("the last call", desk.x().cycle(0), 1);
    }

    @Case("An object is used for at most 512 calls after it has been made")
    private static void ordersToTheLastCall() {
        Desk desk = Desk.with(Texts.largest());
        while (desk.callsLeft() > 2) {
            desk.x().order();
        }
        Desk.same("in order", desk.x().about(6), 1);
        Desk.same("the last call", desk.x().cycle(1), 0b10101010);
    }

    @Case("An object is used for at most 512 calls after it has been made")
    private static void writesToTheLastCall() {
        Desk desk = Desk.with(Texts.packed(8, 8, 8, 60));
        int plain = Texts.plain(76, 8, 8, 8, 60).length();
        int packed = Texts.packed(8, 8, 8, 60).length();
        while (desk.callsLeft() > 2) {
            int kind = desk.callsLeft() % 2;
            Desk.same("write " + kind, desk.x().write(kind), kind == 0 ? plain : packed);
        }
        desk.x().write(1);
        Desk.same("the last call", desk.x().written(packed), DesignTexts.NONE);
    }

    @Case("An object is used for at most 512 calls after it has been made")
    private static void putsToTheLastCall() {
        Desk desk = new Desk();
        desk.put("c".repeat(1500));
        while (desk.callsLeft() > 1) {
            Desk.throwing("put beyond", Desk.UNSUPPORTED, () -> desk.x().put(1, 0));
        }
        Desk.same("the last call", desk.x().read(), 0);
    }

    @Case("An object is used for at most 512 calls after it has been made")
    private static void objectsDoNotMeet() {
        Desk one = Desk.with("aag 1 0 1 1 0\n2 3\n2\n");
        Desk other = Desk.with("aag 2 1 0 1 1\n2\n4\n4 3 2\n");
        one.put("aag 0");
        one.x().write(0);
        one.x().cycle(0);
        Desk.same("the other's text", other.x().about(5), 0);
        Desk.same("the other's page", other.x().written(0), DesignTexts.NONE);
        Desk.same("the other's latches", other.x().latches(), 0);
        Desk.same("the other's MOST", other.x().about(0), 2);
        Desk.same("the one's latches", one.x().latches(), 1);
        Desk.same("the one's text", one.x().read(), 5);
    }

    public static void main(String[] args) {
        Cases.runAll(CallsTest.class);
    }
}
