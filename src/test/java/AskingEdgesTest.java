/** The numbers of about, has, write and written: one below, the first, the last and one beyond. */
public final class AskingEdgesTest {
    private static final int NONE = DesignTexts.NONE;
    /** Two inputs, one latch, three outputs, two gates. */
    private static final String DESIGN = "aag 6 2 1 3 2\n2\n4\n6 10 1\n8\n11\n1\n8 4 2\n10 9 6\n";

    @Case("NONE for another what")
    private static void aboutOneBelow() {
        Desk desk = Desk.with(DESIGN);
        Desk.same("about -1", desk.x().about(-1), NONE);
        Desk.same("about the least", desk.x().about(Integer.MIN_VALUE), NONE);
    }

    @Case("0 MOST")
    private static void aboutTheFirst() {
        Desk.same("about 0", Desk.with(DESIGN).x().about(0), 6);
    }

    @Case("1 inputs, 2 latches, 3 outputs, 4 gates, 5 bytes of the text")
    private static void aboutThoseBetween() {
        Desk desk = Desk.with(DESIGN);
        desk.put("1234567");
        int[] due = {6, 2, 1, 3, 2, 7};
        for (int what = 1; what <= 5; what++) {
            Desk.same("about " + what, desk.x().about(what), due[what]);
        }
    }

    @Case("6 whether the design is in ORDER (1) or not")
    private static void aboutTheLast() {
        Desk.same("about 6", Desk.with(DESIGN).x().about(6), 0);
        Desk.same("about 6", Desk.with(DESIGN.replace("aag 6", "aag 5")).x().about(6), 1);
    }

    @Case("NONE for another what")
    private static void aboutOneBeyond() {
        Desk desk = Desk.with(DESIGN);
        Desk.same("about 7", desk.x().about(7), NONE);
        Desk.same("about the most", desk.x().about(Integer.MAX_VALUE), NONE);
    }

    @Case("IllegalArgumentException for another kind")
    private static void hasKindOneBelow() {
        Desk desk = Desk.with(DESIGN);
        for (int k : new int[] {0, -1, 60}) {
            Desk.throwing("has -1, " + k, Desk.ARGUMENT, () -> desk.x().has(-1, k));
            Desk.throwing("has least, " + k, Desk.ARGUMENT, () -> desk.x().has(Integer.MIN_VALUE, k));
        }
    }

    @Case("IllegalArgumentException for another kind")
    private static void hasKindOneBeyond() {
        Desk desk = Desk.with(DESIGN);
        for (int k : new int[] {0, -1, 60}) {
            Desk.throwing("has 8, " + k, Desk.ARGUMENT, () -> desk.x().has(8, k));
            Desk.throwing("has most, " + k, Desk.ARGUMENT, () -> desk.x().has(Integer.MAX_VALUE, k));
        }
    }

    /** One below, the first, the last and one beyond. */
    private static void hasEdges(int kind, int first, int many, int last) {
        Desk desk = Desk.with(DESIGN);
        Desk.throwing("has " + kind + ", -1", Desk.MISSING, () -> desk.x().has(kind, -1));
        Desk.throwing("has " + kind + ", least", Desk.MISSING, () -> desk.x().has(kind, Integer.MIN_VALUE));
        Desk.same("has " + kind + ", 0", desk.x().has(kind, 0), first);
        Desk.same("has " + kind + ", the last", desk.x().has(kind, many - 1), last);
        Desk.throwing("has " + kind + ", " + many, Desk.MISSING, () -> desk.x().has(kind, many));
        Desk.throwing("has " + kind + ", most", Desk.MISSING, () -> desk.x().has(kind, Integer.MAX_VALUE));
    }

    @Case("The literal of an input (kind 0)")
    private static void hasInput() {
        hasEdges(0, 2, 2, 4);
    }

    @Case("latch (1)")
    private static void hasLatch() {
        hasEdges(1, 6, 1, 6);
    }

    @Case("output (2)")
    private static void hasOutput() {
        hasEdges(2, 8, 3, 1);
    }

    @Case("gate (3)")
    private static void hasGate() {
        hasEdges(3, 8, 2, 10);
    }

    @Case("latch 4 next")
    private static void hasNext() {
        hasEdges(4, 10, 1, 10);
    }

    @Case("5 at first")
    private static void hasFirst() {
        hasEdges(5, 1, 1, 1);
    }

    @Case("gate 6 left")
    private static void hasLeft() {
        hasEdges(6, 4, 2, 9);
    }

    @Case("7 right")
    private static void hasRight() {
        hasEdges(7, 2, 2, 6);
    }

    @Case("NoSuchElementException if there is no such one")
    private static void hasOfAFullDesign() {
        Desk desk = Desk.with(Texts.largest());
        int[] first = {184, 168, 167, 166, 184, 1, 164, 187};
        int[] many = {8, 8, 8, 60, 8, 8, 60, 60};
        int[] last = {198, 182, 160, 48, 198, 1, 184, 193};
        for (int kind = 0; kind < 8; kind++) {
            int asked = kind;
            Desk.throwing("has " + kind + ", -1", Desk.MISSING, () -> desk.x().has(asked, -1));
            Desk.same("has " + kind + ", 0", desk.x().has(kind, 0), first[kind]);
            Desk.same("has " + kind + ", the last", desk.x().has(kind, many[kind] - 1), last[kind]);
            Desk.throwing("has " + kind + ", one beyond", Desk.MISSING, () -> desk.x().has(asked, many[asked]));
        }
    }

    @Case("NoSuchElementException if there is no such one")
    private static void hasOfAnEmptyDesign() {
        Desk desk = new Desk();
        for (int kind = 0; kind < 8; kind++) {
            int asked = kind;
            Desk.throwing("has " + kind + ", 0", Desk.MISSING, () -> desk.x().has(asked, 0));
            Desk.throwing("has " + kind + ", -1", Desk.MISSING, () -> desk.x().has(asked, -1));
        }
    }

    @Case("NoSuchElementException if there is no such one")
    private static void hasOfASmallerDesignThanBefore() {
        Desk desk = Desk.with(Texts.largest());
        desk.readWell("aag 3 1 1 1 1\n2\n4 2\n6\n6 4 2\n");
        for (int kind = 0; kind < 8; kind++) {
            int asked = kind;
            desk.x().has(kind, 0);
            Desk.throwing("has " + kind + ", 1", Desk.MISSING, () -> desk.x().has(asked, 1));
        }
    }

    @Case("IllegalArgumentException for another kind")
    private static void writeOneBelow() {
        Desk desk = Desk.with(DESIGN);
        Desk.throwing("write -1", Desk.ARGUMENT, () -> desk.x().write(-1));
        Desk.throwing("write the least", Desk.ARGUMENT, () -> desk.x().write(Integer.MIN_VALUE));
        Desk.same("nothing written", desk.x().written(0), NONE);
    }

    @Case("PLAIN (kind 0; what a latch is at first only if that is 1)")
    private static void writeTheFirst() {
        Desk.same("plain", Desk.with(DESIGN).write(0), DESIGN);
        String zero = "aag 2 0 2 1 0\n2 4 0\n4 3 1\n4\n";
        Desk.same("a 0 at first", Desk.with(zero).write(0), "aag 2 0 2 1 0\n2 4\n4 3 1\n4\n");
    }

    @Case("or PACKED (1, likewise)")
    private static void writeTheLast() {
        Desk desk = Desk.with(DESIGN);
        desk.x().order();
        Desk.same("packed", desk.write(1), "aig 5 2 1 3 2\n10 1\n8\n11\n1\n\4\2\1\3");
        String zero = "aig 2 0 2 1 0\n4 0\n3 1\n4\n";
        Desk.same("a 0 at first", Desk.with(zero).write(1), "aig 2 0 2 1 0\n4\n3 1\n4\n");
    }

    @Case("IllegalArgumentException for another kind")
    private static void writeOneBeyond() {
        Desk desk = Desk.with(DESIGN.replace("aag 6", "aag 5"));
        Desk.throwing("write 2", Desk.ARGUMENT, () -> desk.x().write(2));
        Desk.throwing("write the most", Desk.ARGUMENT, () -> desk.x().write(Integer.MAX_VALUE));
        Desk.same("nothing written", desk.x().written(0), NONE);
    }

    @Case("IllegalStateException for PACKED if it is not in ORDER")
    private static void writePackedWithoutOrder() {
        for (String text : new String[] {"aag 1 0 0 0 0\n", "aag 2 2 0 0 0\n4\n2\n", "aag 2 1 1 0 0\n4\n2 0\n",
            "aag 2 0 0 0 2\n4 1 0\n2 1 0\n", "aag 2 1 0 0 1\n2\n4 2 3\n", "aag 2 0 0 0 2\n2 5 1\n4 1 1\n"}) {
            Desk desk = Desk.with(text);
            Desk.throwing("packed of " + Desk.shown(text), Desk.STATE, () -> desk.x().write(1));
            Desk.same("plain of " + Desk.shown(text), desk.x().write(0), text.length());
            Desk.throwing("packed of " + Desk.shown(text), Desk.STATE, () -> desk.x().write(1));
            desk.x().order();
            Desk.same("in order", desk.x().write(1) > 0, true);
        }
    }

    /** The design of a new object is in order. */
    @Case("how many bytes; no c")
    private static void writeOfAnEmptyDesign() {
        Desk desk = new Desk();
        Desk.same("plain", desk.write(0), "aag 0 0 0 0 0\n");
        Desk.same("packed", desk.write(1), "aig 0 0 0 0 0\n");
    }

    @Case("how many bytes; no c")
    private static void writeLeavesOutWhatIsBehindC() {
        Desk.same("plain", Desk.with(DESIGN + "c\nx").write(0), DESIGN);
        Desk.same("packed", Desk.with("aig 0 0 0 1 0\n1\ncc").write(1), "aig 0 0 0 1 0\n1\n");
    }

    private static void sameWritten(Desk desk, String due) {
        Desk.same("bytes", desk.x().write(due.charAt(1) == 'a' ? 0 : 1), due.length());
        int step = 1 + due.length() / (desk.callsLeft() - 2);
        for (int k = due.length() - 1; k >= 0; k -= step) {
            Desk.same("byte " + k, desk.x().written(k), (int) due.charAt(k));
        }
        Desk.same("behind the end", desk.x().written(due.length()), NONE);
    }

    @Case("how many bytes; no c")
    private static void writeOfAFullDesign() {
        sameWritten(Desk.with(Texts.largest()), Texts.largest());
        sameWritten(Desk.with(Texts.packed(8, 8, 8, 60)), Texts.packed(8, 8, 8, 60));
        sameWritten(Desk.with(Texts.packed(8, 8, 8, 60)), Texts.plain(76, 8, 8, 8, 60));
        sameWritten(Desk.with(Texts.plain(76, 8, 8, 8, 60)), Texts.packed(8, 8, 8, 60));
    }

    /** The last gate's differences are 127 and 25, 128 and 24, 1 and 127, 1 and 128, 152 and 0, 1 and 151. */
    @Case("each 7 bits a byte, the lowest first, 128 more in each but the last one")
    private static void writeOfDifferences() {
        String full = Texts.packed(8, 8, 0, 60);
        String start = full.substring(0, full.length() - 2);
        for (String last : new String[] {"\177\31", "\u0080\1\30", "\1\177", "\1\u0080\1", "\u0098\1\0", "\1\u0097\1"}) {
            Desk desk = Desk.with(start + last);
            int many = desk.x().write(1);
            Desk.same("bytes", many, start.length() + last.length());
            for (int k = 0; k < last.length(); k++) {
                Desk.same("byte " + k + " of " + Desk.shown(last), desk.x().written(start.length() + k), (int) last.charAt(k));
            }
        }
    }

    @Case("IndexOutOfBoundsException if k is below 0")
    private static void writtenOneBelow() {
        Desk desk = Desk.with(DESIGN);
        Desk.throwing("written -1", Desk.INDEX, () -> desk.x().written(-1));
        desk.x().write(0);
        Desk.throwing("written -1", Desk.INDEX, () -> desk.x().written(-1));
        Desk.throwing("written the least", Desk.INDEX, () -> desk.x().written(Integer.MIN_VALUE));
    }

    @Case("Byte k of what was written latest")
    private static void writtenTheFirstAndTheLast() {
        Desk desk = Desk.with(DESIGN);
        int many = desk.x().write(0);
        Desk.same("the first", desk.x().written(0), (int) 'a');
        Desk.same("the last", desk.x().written(many - 1), 10);
    }

    @Case("NONE behind its end")
    private static void writtenOneBeyond() {
        Desk desk = Desk.with(DESIGN);
        int many = desk.x().write(0);
        for (int k : new int[] {many, many + 1, 1499, 1500, 1501, Integer.MAX_VALUE}) {
            Desk.same("written " + k, desk.x().written(k), NONE);
        }
    }

    @Case("no text, nothing written")
    private static void writtenOfNothing() {
        Desk desk = new Desk();
        for (int k : new int[] {0, 1, 1499, 1500, Integer.MAX_VALUE}) {
            Desk.same("written " + k, desk.x().written(k), NONE);
        }
        Desk.throwing("written -1", Desk.INDEX, () -> desk.x().written(-1));
    }

    @Case("Byte k of what was written latest")
    private static void writtenOfAShorterTextThanBefore() {
        Desk desk = Desk.with("aag 1 1 0 1 0\n2\n3\n");
        Desk.same("plain", desk.x().write(0), 18);
        Desk.same("its last", desk.x().written(17), 10);
        Desk.same("packed", desk.x().write(1), 16);
        Desk.same("its second", desk.x().written(1), (int) 'i');
        Desk.same("its last", desk.x().written(15), 10);
        Desk.same("behind its end", desk.x().written(16), NONE);
    }

    @Case("Byte k of what was written latest")
    private static void writtenStaysThroughOtherCalls() {
        Desk desk = Desk.with("aag 1 0 1 1 0\n2 3\n3\n");
        desk.x().write(0);
        desk.x().cycle(0);
        desk.x().order();
        desk.x().reset();
        desk.put("aag 0 0");
        desk.x().read();
        desk.readWell("aig 0 0 0 0 0\n");
        String due = "aag 1 0 1 1 0\n2 3\n3\n";
        for (int k = 0; k < due.length(); k++) {
            Desk.same("byte " + k, desk.x().written(k), (int) due.charAt(k));
        }
        Desk.same("behind the end", desk.x().written(due.length()), NONE);
    }

    @Case("Byte k of what was written latest")
    private static void writtenAbove127() {
        String full = Texts.packed(8, 8, 0, 60);
        Desk desk = Desk.with(full.substring(0, full.length() - 2) + "\u0098\1\0");
        int many = desk.x().write(1);
        Desk.same("a byte above 127", desk.x().written(many - 3), 0x98);
        Desk.same("the last one", desk.x().written(many - 1), 0);
    }

    public static void main(String[] args) {
        Cases.runAll(AskingEdgesTest.class);
    }
}
