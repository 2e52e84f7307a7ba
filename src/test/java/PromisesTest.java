/** Each promise with ordinary inputs, the edges that the document names, and wrong inputs. */
public final class PromisesTest {
    private static final int NONE = DesignTexts.NONE;
    private static final String SMALL = "aag 4 2 1 1 1\n2\n4\n6 8 1\n9\n8 3 6\n";
    /** Gates that stand ahead of what they rest on, and values that are left out. */
    private static final String MIXED =
        "aag 20 2 2 3 4\n30\n8\n40 13 1\n2 31\n6\n12\n1\n6 12 20\n12 9 40\n20 2 12\n22 30 31\n";

    private static Desk with(String text) {
        return Desk.with(text);
    }

    private static void newObject() {
        Desk desk = new Desk();
        Desk.same("NONE", DesignTexts.NONE, -1);
        Desk.same("a new object", desk.seen(), "0 0 0 0 0 0 1 | | | | | | | | latches 0");
        Desk.same("nothing written", desk.x().written(0), NONE);
        Desk.same("cycle of nothing", desk.x().cycle(-1), 0);
        Desk.same("plain of nothing", desk.write(0), "aag 0 0 0 0 0\n");
        Desk.same("packed of nothing", desk.write(1), "aig 0 0 0 0 0\n");
    }

    private static void putting() {
        Desk desk = new Desk();
        for (int many : new int[] {0, -1, 5, Integer.MIN_VALUE, Integer.MAX_VALUE}) {
            Desk.throwing("put of " + many, Desk.ARGUMENT, () -> desk.x().put(many, 0));
        }
        Desk.same("bytes after refusals", desk.x().about(5), 0);
        Desk.same("one byte", desk.x().put(1, 0x12345600 | 'a'), 1);
        Desk.same("two bytes", desk.x().put(2, 0x7fff0000 | 'g' << 8 | 'a'), 3);
        Desk.same("three bytes", desk.x().put(3, ' ' << 16 | '0' << 8 | ' '), 6);
        Desk.same("four bytes", desk.x().put(4, ' ' << 24 | '0' << 16 | ' ' << 8 | '0'), 10);
        desk.put("0 0\n");
        Desk.same("text put in pieces", desk.x().read(), NONE);
    }

    private static void puttingTooMuch() {
        Desk desk = new Desk();
        desk.put("aag 0 0 0 0 0\nc\377");
        for (int k = 16; k < 1496; k += 4) {
            desk.x().put(4, -1);
        }
        Desk.same("bytes", desk.x().put(3, -1), 1499);
        Desk.throwing("1501 bytes", Desk.UNSUPPORTED, () -> desk.x().put(2, 0));
        Desk.throwing("1503 bytes", Desk.UNSUPPORTED, () -> desk.x().put(4, 0));
        Desk.throwing("many, first of all", Desk.ARGUMENT, () -> desk.x().put(5, 0));
        Desk.same("bytes still", desk.x().about(5), 1499);
        Desk.same("1500 bytes", desk.x().put(1, 0), 1500);
        Desk.throwing("one more", Desk.UNSUPPORTED, () -> desk.x().put(1, 0));
        Desk.same("the full text", desk.x().read(), NONE);
        Desk.same("empty then", desk.x().about(5), 0);
        Desk.same("room again", desk.x().put(4, 0), 4);
    }

    private static void reading() {
        Desk desk = with(SMALL);
        Desk.same("small", desk.seen(), "4 2 1 1 1 0 0 | 2 4 | 6 | 9 | 8 | 8 | 1 | 3 | 6 latches 1");
        desk.x().cycle(1);
        String before = desk.seen();
        Desk.same("a fault at the end", desk.read("aag 3 1 0 1 1\n2\n4\n6 2 2\n"), 16);
        Desk.same("a fault leaves the design", desk.seen(), before);
        Desk.same("no text", desk.x().read(), 0);
        Desk.same("no text leaves the design", desk.seen(), before);
        Desk.same("still runs", desk.x().cycle(0), 1);
        desk.readWell("aig 2 1 0 1 1\n4\n\2\1");
        Desk.same("packed", desk.seen(), "2 1 0 1 1 0 1 | 2 | | 4 | 4 | | | 2 | 1 latches 0");
        desk.readWell("aig 5 1 2 1 2\n9 1\n4\n11\n\3\2\1\11");
        Desk.same("packed with latches", desk.seen(),
            "5 1 2 1 2 0 1 | 2 | 4 6 | 11 | 8 10 | 9 4 | 1 0 | 5 9 | 3 0 latches 1");
        desk.readWell("aag 1 0 1 0 0\n2 3 1\n");
        desk.x().cycle(0);
        desk.readWell("aag 1 0 1 0 0\n2 3 1\n");
        Desk.same("latches as at first after read", desk.x().latches(), 1);
    }

    private static void asking() {
        Desk desk = with(MIXED);
        int[] due = {20, 2, 2, 3, 4, 0, 0};
        for (int what = 0; what < due.length; what++) {
            Desk.same("about " + what, desk.x().about(what), due[what]);
        }
        for (int what : new int[] {-1, 7, 8, Integer.MIN_VALUE, Integer.MAX_VALUE}) {
            Desk.same("about " + what, desk.x().about(what), NONE);
        }
        desk.put("123");
        Desk.same("bytes", desk.x().about(5), 3);
    }

    private static void inOrder(String text, int due) {
        Desk.same("order of " + Desk.shown(text), with(text).x().about(6), due);
    }

    private static void askingForOrder() {
        inOrder("aag 0 0 0 2 0\n0\n1\n", 1);
        inOrder("aag 1 0 0 0 0\n", 0);
        inOrder("aag 2 2 0 0 0\n2\n4\n", 1);
        inOrder("aag 2 2 0 0 0\n4\n2\n", 0);
        inOrder("aag 3 2 0 0 0\n2\n4\n", 0);
        inOrder("aag 2 1 1 0 0\n2\n4 4\n", 1);
        inOrder("aag 2 1 1 0 0\n4\n2 4\n", 0);
        inOrder("aag 2 1 0 0 1\n2\n4 3 2\n", 1);
        inOrder("aag 2 1 0 0 1\n2\n4 2 2\n", 1);
        inOrder("aag 2 1 0 0 1\n2\n4 2 3\n", 0);
        inOrder("aag 2 1 0 0 1\n4\n2 5 4\n", 0);
        inOrder("aag 2 0 0 0 2\n2 1 0\n4 3 2\n", 1);
        inOrder("aag 2 0 0 0 2\n2 5 0\n4 1 0\n", 0);
        inOrder("aag 2 0 0 0 2\n4 1 0\n2 1 0\n", 0);
        inOrder("aag 2 0 1 0 1\n4 2\n2 1 0\n", 0);
    }

    private static void having() {
        Desk desk = with(MIXED);
        Desk.same("mixed", desk.seen(), "20 2 2 3 4 0 0 | 30 8 | 40 2 | 6 12 1 | 6 12 20 22"
            + " | 13 31 | 1 0 | 12 9 2 30 | 20 40 12 31 latches 1");
        int[] many = {2, 2, 3, 4, 2, 2, 4, 4};
        for (int kind = 0; kind < 8; kind++) {
            int asked = kind;
            for (int k : new int[] {many[kind], -1, 60, 99, Integer.MAX_VALUE, Integer.MIN_VALUE}) {
                Desk.throwing("has " + kind + " " + k, Desk.MISSING, () -> desk.x().has(asked, k));
            }
        }
        for (int kind : new int[] {-1, 8, Integer.MIN_VALUE, Integer.MAX_VALUE}) {
            Desk.throwing("has " + kind, Desk.ARGUMENT, () -> desk.x().has(kind, 0));
            Desk.throwing("the kind first", Desk.ARGUMENT, () -> desk.x().has(kind, -1));
        }
        desk.readWell("aag 0 0 0 1 0\n1\n");
        Desk.same("a smaller design's", desk.x().has(2, 0), 1);
        Desk.throwing("what the earlier one had", Desk.MISSING, () -> desk.x().has(2, 1));
        Desk.throwing("what the earlier one had", Desk.MISSING, () -> desk.x().has(7, 0));
    }

    private static void ordering() {
        Desk desk = with(MIXED);
        desk.x().cycle(3);
        int bits = desk.x().latches();
        desk.x().order();
        Desk.same("mixed in order", desk.seen(), "8 2 2 3 4 0 1 | 2 4 | 6 8 | 14 10 1 | 10 12 14 16"
            + " | 11 3 | 1 0 | 6 10 12 3 | 5 8 10 2 latches " + bits);
        String before = desk.seen();
        desk.x().order();
        Desk.same("in order stays", desk.seen(), before);
        desk.x().reset();
        Desk.same("at first is kept", desk.x().latches(), 1);
        Desk same = with(MIXED);
        for (int inputs = 0; inputs < 8; inputs++) {
            Desk.same("means the same", desk.x().cycle(inputs), same.x().cycle(inputs));
            Desk.same("means the same", desk.x().latches(), same.x().latches());
        }
    }

    private static void orderingSmall() {
        Desk desk = new Desk();
        desk.x().order();
        Desk.same("nothing in order", desk.seen(), "0 0 0 0 0 0 1 | | | | | | | | latches 0");
        desk.readWell("aag 99 1 0 1 0\n198\n199\n");
        desk.put("aag");
        desk.x().order();
        Desk.same("values left out", desk.seen(), "1 1 0 1 0 3 1 | 2 | | 3 | | | | | latches 0");
        desk.x().read();
        // Once gate 2 is ready, gate 0 comes ahead of gate 3, which was ready all the time.
        desk.readWell("aag 5 1 0 0 4\n10\n2 4 4\n4 6 6\n6 10 10\n8 11 10\n");
        desk.x().order();
        Desk.same("the first one again and again", desk.seen(),
            "5 1 0 0 4 0 1 | 2 | | | 4 6 8 10 | | | 2 4 6 3 | 2 4 6 2 latches 0");
        desk.readWell("aag 3 1 0 1 2\n2\n4\n4 7 6\n6 0 1\n");
        desk.x().order();
        Desk.same("opposites and constants", desk.seen(), "3 1 0 1 2 0 1 | 2 | | 6 | 4 6 | | | 1 5 | 0 4 latches 0");
    }

    private static void writing() {
        Desk desk = with(SMALL);
        Desk.same("plain as it was", desk.write(0), SMALL);
        Desk.throwing("packed without order", Desk.STATE, () -> desk.x().write(1));
        Desk.same("a refusal leaves what was written", desk.x().written(0), (int) 'a');
        Desk.same("a refusal leaves what was written", desk.x().written(1), (int) 'a');
        for (int kind : new int[] {-1, 2, Integer.MIN_VALUE, Integer.MAX_VALUE}) {
            Desk.throwing("write " + kind, Desk.ARGUMENT, () -> desk.x().write(kind));
        }
        desk.x().order();
        Desk.same("what was written stays", desk.x().written(28), (int) '3');
        Desk.same("packed in order", desk.write(1), "aig 4 2 1 1 1\n8 1\n9\n\2\3");
        Desk.same("plain in order", desk.write(0), "aag 4 2 1 1 1\n2\n4\n6 8 1\n9\n8 6 3\n");
        desk.readWell("aag 2 0 2 0 0\n4 3 0\n2 5 1\nc comment");
        Desk.same("a 0 at first is not told, nor what is behind c", desk.write(0), "aag 2 0 2 0 0\n4 3\n2 5 1\n");
        desk.x().cycle(0);
        Desk.same("at first, not as they are", desk.write(0), "aag 2 0 2 0 0\n4 3\n2 5 1\n");
    }

    private static void writingMore() {
        Desk desk = with("aag 99 1 0 2 1\n198\n199\n10\n10 198 0\n");
        Desk.same("three digits", desk.write(0), "aag 99 1 0 2 1\n198\n199\n10\n10 198 0\n");
        StringBuilder text = new StringBuilder("aag 70 8 2 0 60\n");
        for (int k = 1; k <= 8; k++) {
            text.append(2 * k).append('\n');
        }
        text.append("18 0\n20 0\n");
        for (int k = 11; k <= 68; k++) {
            text.append(2 * k).append(" 1 0\n");
        }
        text.append("138 10 9\n140 139 1\n");
        Desk large = with(text.toString());
        StringBuilder due = new StringBuilder("aig 70 8 2 0 60\n0\n0\n");
        for (int k = 11; k <= 68; k++) {
            int difference = 2 * k - 1;
            if (difference < 128) {
                due.append((char) difference);
            } else {
                // The lowest seven bits and 128 more are the difference itself, as it is below 256.
                due.append((char) difference).append('\1');
            }
            due.append('\1');
        }
        due.append("\u0080\1\1\1\u008a\1");
        Desk.same("long differences", Desk.shown(large.write(1)), Desk.shown(due.toString()));
    }

    private static void askingWhatWasWritten() {
        Desk desk = new Desk();
        for (int k : new int[] {-1, Integer.MIN_VALUE}) {
            Desk.throwing("written " + k, Desk.INDEX, () -> desk.x().written(k));
        }
        Desk.same("behind nothing", desk.x().written(Integer.MAX_VALUE), NONE);
        desk.readWell(SMALL);
        int many = desk.x().write(0);
        Desk.same("bytes", many, SMALL.length());
        Desk.same("the last byte", desk.x().written(many - 1), 10);
        for (int k : new int[] {many, many + 1, 1499, 1500, 1501, Integer.MAX_VALUE}) {
            Desk.same("behind the end", desk.x().written(k), NONE);
        }
        desk.read("aag");
        desk.readWell("aag 0 0 0 0 0\n");
        Desk.same("reading leaves it", desk.x().written(14), (int) '2');
        Desk.same("a shorter one", desk.x().write(0), 14);
        Desk.same("the longer one is gone", desk.x().written(14), NONE);
    }

    private static void resetting() {
        Desk desk = with("aag 4 1 3 0 0\n2\n4 2 1\n6 2\n8 0 1\n");
        Desk.same("at first", desk.x().latches(), 5);
        desk.x().cycle(1);
        Desk.same("after a cycle", desk.x().latches(), 3);
        desk.x().reset();
        Desk.same("as at first", desk.x().latches(), 5);
        desk.x().reset();
        Desk.same("as at first still", desk.x().latches(), 5);
        Desk fresh = new Desk();
        fresh.x().reset();
        Desk.same("a new object's", fresh.x().latches(), 0);
    }

    private static void cycling() {
        Desk swap = with("aag 2 0 2 4 0\n2 4 1\n4 2\n2\n5\n0\n1\n");
        int[] outputs = {11, 8, 11};
        int[] latches = {2, 1, 2};
        for (int k = 0; k < 3; k++) {
            Desk.same("outputs ahead of the change", swap.x().cycle(0), outputs[k]);
            Desk.same("latches change at once", swap.x().latches(), latches[k]);
        }
        Desk all = with("aag 8 8 0 8 0\n16\n14\n12\n10\n8\n6\n4\n2\n16\n14\n12\n10\n8\n6\n4\n3\n");
        Desk.same("input 0 the lowest", all.x().cycle(1), 129);
        Desk.same("input 7", all.x().cycle(128), 0);
        Desk.same("further bits", all.x().cycle(-256), 128);
        Desk.same("all bits", all.x().cycle(-1), 127);
        Desk.same("the highest bit", all.x().cycle(Integer.MIN_VALUE), 128);
        Desk and = with("aag 5 2 0 3 3\n2\n4\n6\n8\n10\n6 9 11\n8 2 4\n10 3 5\n");
        int[] due = {4, 1, 1, 2};
        for (int inputs = 0; inputs < 4; inputs++) {
            Desk.same("gates ahead of theirs", and.x().cycle(inputs), due[inputs]);
            Desk.same("two inputs alone", and.x().cycle(inputs | 0x7ffffffc), due[inputs]);
        }
    }

    private static void seeingLatches() {
        StringBuilder text = new StringBuilder("aag 8 0 8 0 0\n");
        for (int k = 1; k <= 8; k++) {
            text.append(2 * k).append(' ').append(k == 8 ? 2 : 2 * k + 2).append(k == 8 ? " 1\n" : "\n");
        }
        Desk desk = with(text.toString());
        for (int bit = 128; bit > 0; bit >>= 1) {
            Desk.same("a ring", desk.x().latches(), bit);
            Desk.same("no outputs", desk.x().cycle(0), 0);
        }
        Desk.same("round", desk.x().latches(), 128);
    }

    public static void main(String[] args) {
        newObject();
        putting();
        puttingTooMuch();
        reading();
        asking();
        askingForOrder();
        having();
        ordering();
        orderingSmall();
        writing();
        writingMore();
        askingWhatWasWritten();
        resetting();
        cycling();
        seeingLatches();
        Desk.end();
    }
}
