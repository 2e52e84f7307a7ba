/** The text as a row of bytes: empty, full, and a put that would go beyond it (promises 2 and 3). */
public final class TextEdgesTest {
    private static final int NONE = DesignTexts.NONE;

    /** A desk whose text has so many bytes: a good text with anything behind its c. */
    private static Desk filled(int bytes) {
        Desk desk = new Desk();
        String good = "aag 1 1 0 1 0\n2\n3\nc";
        desk.put(good + "\u00ff".repeat(bytes - good.length()));
        Desk.same("bytes of a filled text", desk.x().about(5), bytes);
        return desk;
    }

    private static void refuses(Desk desk, int many) {
        int before = desk.x().about(5);
        Desk.throwing("put of " + many + " behind " + before, Desk.UNSUPPORTED, () -> desk.x().put(many, 0));
        Desk.same("bytes after the refusal", desk.x().about(5), before);
    }

    private static void readsAsGood(Desk desk) {
        Desk.same("read", desk.x().read(), NONE);
        Desk.same("empty then", desk.x().about(5), 0);
        Desk.same("the design", desk.seen(), "1 1 0 1 0 0 1 | 2 | | 3 | | | | | latches 0");
    }

    @Case("So many bytes (1 .. 4) more of the text")
    private static void putOfZeroBytes() {
        Desk desk = new Desk();
        Desk.throwing("put of 0", Desk.ARGUMENT, () -> desk.x().put(0, 97));
        Desk.same("bytes", desk.x().about(5), 0);
    }

    @Case("IllegalArgumentException if many is not 1 .. 4")
    private static void putOfFiveBytes() {
        Desk desk = new Desk();
        Desk.throwing("put of 5", Desk.ARGUMENT, () -> desk.x().put(5, 97));
        Desk.same("bytes", desk.x().about(5), 0);
    }

    @Case("IllegalArgumentException if many is not 1 .. 4")
    private static void putOfFarTooFewOrMany() {
        Desk desk = new Desk();
        for (int many : new int[] {-1, -4, Integer.MIN_VALUE, 6, 1500, 1501, Integer.MAX_VALUE, 0x101, 0x10004}) {
            Desk.throwing("put of " + many, Desk.ARGUMENT, () -> desk.x().put(many, 97));
        }
        Desk.same("bytes", desk.x().about(5), 0);
    }

    @Case("So many bytes (1 .. 4) more of the text")
    private static void putOfOneByte() {
        Desk desk = new Desk();
        Desk.same("bytes", desk.x().put(1, 'a'), 1);
        Desk.same("bytes", desk.x().put(1, 'a'), 2);
        Desk.same("the fault is behind them", desk.x().read(), 2);
    }

    @Case("So many bytes (1 .. 4) more of the text")
    private static void putOfFourBytes() {
        Desk desk = new Desk();
        Desk.same("bytes", desk.x().put(4, 'a' | 'a' << 8 | 'g' << 16 | ' ' << 24), 4);
        Desk.same("the fault is behind them", desk.x().read(), 4);
    }

    @Case("the lowest byte of v first")
    private static void lowestByteFirst() {
        int v = 'a' | 'a' << 8 | 'g' << 16 | 'x' << 24;
        int[] due = {1, 2, 3, 3};
        for (int many = 1; many <= 4; many++) {
            Desk desk = new Desk();
            desk.x().put(many, v);
            Desk.same("fault of " + many, desk.x().read(), due[many - 1]);
        }
    }

    @Case("the lowest byte of v first")
    private static void higherBytesCountForNothing() {
        Desk desk = new Desk();
        String text = "aag 0 0 0 1 0\n1\n";
        for (int k = 0; k < text.length(); k++) {
            desk.x().put(1, text.charAt(k) | 0xffffff00);
        }
        Desk.same("read", desk.x().read(), NONE);
    }

    @Case("the lowest byte of v first")
    private static void negativeValuesAreBytesToo() {
        Desk desk = new Desk();
        String start = Texts.packed(8, 8, 0, 60);
        desk.put(start.substring(0, start.length() - 2));
        // A difference of 152 in two bytes, then one of 0: the first byte is above 127.
        desk.x().put(3, 0xff000198);
        Desk.same("read", desk.x().read(), NONE);
        Desk.same("left", desk.x().has(6, 59), 0);
    }

    @Case("how many there are")
    private static void emptyText() {
        Desk desk = new Desk();
        Desk.same("bytes", desk.x().about(5), 0);
        Desk.same("ends too early", desk.x().read(), 0);
        Desk.same("bytes still", desk.x().about(5), 0);
        Desk.same("the design stays", desk.seen(), "0 0 0 0 0 0 1 | | | | | | | | latches 0");
    }

    @Case("The text, which is empty then (with a FAULT, too)")
    private static void emptyAfterReading() {
        Desk desk = Desk.with("aag 0 0 0 1 0\n1\n");
        Desk.same("bytes", desk.x().about(5), 0);
        Desk.same("nothing to read", desk.x().read(), 0);
        Desk.same("the design stays", desk.x().has(2, 0), 1);
    }

    @Case("The text, which is empty then (with a FAULT, too)")
    private static void emptyAfterAFault() {
        Desk desk = new Desk();
        Desk.same("fault", desk.read("aag 0 0 0 1 0\n2\n"), 14);
        Desk.same("bytes", desk.x().about(5), 0);
        Desk.same("the next byte is the first", desk.x().put(1, 'a'), 1);
        desk.put("ag 0 0 0 1 0\n1\n");
        Desk.same("read", desk.x().read(), NONE);
    }

    @Case("UnsupportedOperationException if there would be more than 1500")
    private static void fullByOne() {
        Desk desk = filled(1499);
        Desk.same("bytes", desk.x().put(1, 0), 1500);
        readsAsGood(desk);
    }

    @Case("UnsupportedOperationException if there would be more than 1500")
    private static void fullByTwo() {
        Desk desk = filled(1498);
        Desk.same("bytes", desk.x().put(2, 0), 1500);
        readsAsGood(desk);
    }

    @Case("UnsupportedOperationException if there would be more than 1500")
    private static void fullByThree() {
        Desk desk = filled(1497);
        Desk.same("bytes", desk.x().put(3, 0), 1500);
        readsAsGood(desk);
    }

    @Case("UnsupportedOperationException if there would be more than 1500")
    private static void fullByFour() {
        Desk desk = filled(1496);
        Desk.same("bytes", desk.x().put(4, 0), 1500);
        readsAsGood(desk);
    }

    @Case("UnsupportedOperationException if there would be more than 1500")
    private static void oneByteBeyond() {
        for (int many = 1; many <= 4; many++) {
            Desk desk = filled(1501 - many);
            refuses(desk, many);
            readsAsGood(desk);
        }
    }

    @Case("UnsupportedOperationException if there would be more than 1500")
    private static void fullTextRefusesAll() {
        Desk desk = filled(1500);
        for (int many = 1; many <= 4; many++) {
            refuses(desk, many);
        }
        readsAsGood(desk);
    }

    @Case("UnsupportedOperationException if there would be more than 1500")
    private static void fewerBytesStillFit() {
        Desk desk = filled(1497);
        refuses(desk, 4);
        Desk.same("three fit", desk.x().put(3, 0), 1500);
        readsAsGood(desk);
    }

    @Case("IllegalArgumentException if many is not 1 .. 4")
    private static void wrongManyOfAFullText() {
        Desk desk = filled(1500);
        Desk.throwing("put of 0", Desk.ARGUMENT, () -> desk.x().put(0, 0));
        Desk.throwing("put of 5", Desk.ARGUMENT, () -> desk.x().put(5, 0));
        Desk.throwing("put of the least", Desk.ARGUMENT, () -> desk.x().put(Integer.MIN_VALUE, 0));
        Desk.throwing("put of the most", Desk.ARGUMENT, () -> desk.x().put(Integer.MAX_VALUE, 0));
        readsAsGood(desk);
    }

    @Case("The text, which is empty then (with a FAULT, too)")
    private static void fullTextWithAFault() {
        Desk desk = new Desk();
        desk.put("aag 1 1 0 1 0\n2\n4\nc" + "c".repeat(1481));
        Desk.same("bytes", desk.x().about(5), 1500);
        Desk.same("fault", desk.x().read(), 16);
        Desk.same("empty then", desk.x().about(5), 0);
        Desk.same("room again", desk.x().put(4, 0), 4);
    }

    @Case("UnsupportedOperationException if there would be more than 1500")
    private static void emptyAndFullASecondTime() {
        Desk desk = new Desk();
        desk.put("aag 0 0 0 0 0\nc" + "x".repeat(500));
        Desk.same("read", desk.x().read(), NONE);
        desk.put("aag 1 1 0 1 0\n2\n3\nc" + "\0".repeat(1481));
        refuses(desk, 1);
        Desk.same("read again", desk.x().read(), NONE);
        Desk.same("the later design", desk.x().has(2, 0), 3);
    }

    @Case("PACKED if its second and third byte are ig")
    private static void secondAndThirdByteTellTheKind() {
        Desk.fault("a", 1);
        Desk.fault("ai", 1);
        Desk.fault("aix", 1);
        Desk.fault("aig", 3);
        Desk.fault("xig", 0);
        Desk.fault("aag", 3);
        Desk.fault("aa", 2);
        Desk.fault("axg", 1);
        Desk.fault("aai", 2);
        Desk.fault("iig 0 0 0 0 0\n", 0);
        Desk.fault("aIG 0 0 0 0 0\n", 1);
    }

    @Case("(the design stays)")
    private static void faultLeavesDesignAndLatches() {
        Desk desk = Desk.with("aag 3 1 1 2 1\n2\n4 5 1\n6\n4\n6 4 2\n");
        desk.x().cycle(0);
        String before = desk.seen();
        String[] faulty = {"", "x", "aag 100", "aag 3 1 1 2 1\n2\n4 3\n6\n4\n6 6 2\n",
            "aag 3 1 1 2 1\n2\n4 3\n6\n4\n6 4 2\nx", "aig 3 1 1 1 1\n5 1\n6\n\1\6", "aag 9 1 1 2 1\n2\n4 18\n6\n4\n6 4 2\n"};
        for (String text : faulty) {
            Desk.same("faulty " + Desk.shown(text), desk.read(text) >= 0, true);
            Desk.same("as before " + Desk.shown(text), desk.seen(), before);
        }
        Desk.same("outputs", desk.x().cycle(1), 0);
        Desk.same("latches", desk.x().latches(), 1);
    }

    @Case("latches being as they are at first")
    private static void readSetsLatches() {
        Desk desk = Desk.with("aag 2 0 2 0 0\n2 4 1\n4 2\n");
        Desk.same("at first", desk.x().latches(), 1);
        desk.x().cycle(0);
        Desk.same("after a cycle", desk.x().latches(), 2);
        desk.readWell("aig 2 0 2 0 0\n4 1\n2\n");
        Desk.same("at first again", desk.x().latches(), 1);
        desk.readWell("aig 2 0 2 0 0\n4 0\n2\n");
        Desk.same("none at first", desk.x().latches(), 0);
    }

    /** What can be seen of a design that is gone through, put in order and gone through again. */
    private static String goneThrough(Desk desk) {
        StringBuilder all = new StringBuilder(desk.seen());
        for (int round = 0; round < 2; round++) {
            for (int inputs = 0; inputs < 4; inputs++) {
                all.append(" cycle ").append(desk.x().cycle(inputs)).append(' ').append(desk.x().latches());
            }
            desk.x().reset();
            desk.x().order();
            all.append(' ').append(desk.seen());
        }
        return all.append(desk.write(0)).append(desk.write(1)).toString();
    }

    /** Small designs behind two full ones, whose every latch is 1 at first and whose every output is 1. */
    @Case("and it is the design")
    private static void smallDesignsBehindFullOnes() {
        String full = Texts.packed(8, 8, 8, 60).replace("\n0\n", "\n1 1\n").replace("\n0\n", "\n1 1\n");
        for (String small : new String[] {"aag 0 0 0 0 0\n", "aag 1 1 0 0 0\n2\n", "aag 9 1 1 1 1\n18\n16 3 1\n2\n2 16 18\n",
            "aag 9 0 1 2 1\n2 2\n6\n0\n6 1 3\n", "aig 3 1 1 1 1\n6\n7\n\1\3", "aag 4 1 0 1 3\n2\n8\n8 6 4\n6 5 4\n4 2 2\n",
            // An input whose literal was the first latch's, and one whose literal was the first gate's.
            "aag 9 1 0 1 0\n18\n18\n", "aag 17 1 0 1 0\n34\n34\n"}) {
            Desk desk = new Desk();
            desk.readWell(full);
            desk.readWell(full);
            desk.readWell(small);
            Desk.same("behind full ones " + Desk.shown(small), goneThrough(desk), goneThrough(Desk.with(small)));
        }
    }

    public static void main(String[] args) {
        Cases.runAll(TextEdgesTest.class);
    }
}
