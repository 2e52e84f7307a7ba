import java.util.NoSuchElementException;

/** A design of ANDs and latches, read from and written as plain or packed texts. */
public final class DesignTexts {
    public static final int NONE = -1;

    // The kinds by which a caller asks for a part; a design keeps a row for each.
    private static final int INPUT = 0;
    private static final int LATCH = 1;
    private static final int OUTPUT = 2;
    private static final int GATE = 3;
    private static final int NEXT = 4;
    private static final int FIRST = 5;
    private static final int LEFT = 6;
    private static final int RIGHT = 7;
    private static final int KINDS = 8;

    private static final int PLAIN = 0;
    private static final int PACKED = 1;

    private static final int GREATEST_MOST = 99;
    private static final int GREATEST_FEW = 8;
    private static final int GREATEST_GATES = 60;
    private static final int GREATEST_TEXT = 1500;
    private static final int GREATEST_PUT = 4;
    private static final int GREATEST_DIGITS = 4;

    private static final int BLANK = 32;
    private static final int LINE_END = 10;
    private static final int MORE = 128;

    private final Bytes text = new Bytes();
    private final Bytes page = new Bytes();
    private final TextReader reader = new TextReader(text);
    private final PageWriter writer = new PageWriter(page);

    // Two designs change places, so that a text with a fault leaves the first one as it is.
    private Design design = new Design();
    private Design spare = new Design();

    public DesignTexts() {
    }

    public int put(int many, int v) throws IllegalArgumentException, UnsupportedOperationException {
        if (many < 1 || many > GREATEST_PUT) {
            throw new IllegalArgumentException("many is not 1 .. 4");
        }
        if (text.size() + many > GREATEST_TEXT) {
            throw new UnsupportedOperationException("more than 1500 bytes");
        }
        for (int k = 0; k < many; k++) {
            text.add(v >>> (8 * k));
        }
        return text.size();
    }

    public int read() {
        int fault = reader.fill(spare);
        text.clear();
        if (fault == NONE) {
            spare.restart();
            exchange();
        }
        return fault;
    }

    public int about(int what) {
        switch (what) {
            case 0:
                return design.most();
            case 1:
                return design.many(INPUT);
            case 2:
                return design.many(LATCH);
            case 3:
                return design.many(OUTPUT);
            case 4:
                return design.many(GATE);
            case 5:
                return text.size();
            case 6:
                return design.inOrder() ? 1 : 0;
            default:
                return NONE;
        }
    }

    public int has(int kind, int k) throws IllegalArgumentException, NoSuchElementException {
        if (kind < 0 || kind >= KINDS) {
            throw new IllegalArgumentException("no such kind");
        }
        if (!design.holds(kind, k)) {
            throw new NoSuchElementException("no such one");
        }
        return design.get(kind, k);
    }

    public void order() {
        spare.orderFrom(design);
        exchange();
    }

    public int write(int kind) throws IllegalArgumentException, IllegalStateException {
        if (kind != PLAIN && kind != PACKED) {
            throw new IllegalArgumentException("no such kind");
        }
        if (kind == PACKED && !design.inOrder()) {
            throw new IllegalStateException("not in order");
        }
        page.clear();
        if (kind == PLAIN) {
            writer.plain(design);
        } else {
            writer.packed(design);
        }
        return page.size();
    }

    public int written(int k) throws IndexOutOfBoundsException {
        if (k < 0) {
            throw new IndexOutOfBoundsException("below 0");
        }
        return page.at(k);
    }

    public void reset() {
        design.restart();
    }

    public int cycle(int inputs) {
        return design.step(inputs);
    }

    public int latches() {
        return design.latchBits();
    }

    private void exchange() {
        Design other = design;
        design = spare;
        spare = other;
    }

    /** A row of bytes that is made once and filled again and again. */
    private static final class Bytes {
        private final byte[] row = new byte[GREATEST_TEXT];
        private int size;

        int size() {
            return size;
        }

        void clear() {
            size = 0;
        }

        void add(int b) {
            if (size >= 0 && size < row.length) {
                row[size] = (byte) b;
                size++;
            }
        }

        /** Byte k as 0 .. 255, or NONE where there is none. */
        int at(int k) {
            return k >= 0 && k < size && k < row.length ? row[k] & 255 : NONE;
        }
    }

    /** What a design has, how its gates follow one another, and how its latches are. */
    private static final class Design {
        private final int[][] rows = new int[KINDS][GREATEST_GATES];
        private final int[] counts = new int[GATE + 1];
        private final int[] sequence = new int[GREATEST_GATES];
        // By value: one row serves stepping, arranging and numbering anew, which never meet.
        private final int[] marks = new int[GREATEST_MOST + 1];
        private int most;
        private int latchBits;

        int most() {
            return most;
        }

        void setMost(int value) {
            most = value;
        }

        int latchBits() {
            return latchBits;
        }

        /** How many there are that have something of this kind. */
        int many(int kind) {
            switch (kind) {
                case INPUT:
                    return counts[INPUT];
                case LATCH:
                case NEXT:
                case FIRST:
                    return counts[LATCH];
                case OUTPUT:
                    return counts[OUTPUT];
                case GATE:
                case LEFT:
                case RIGHT:
                    return counts[GATE];
                default:
                    return 0;
            }
        }

        void setMany(int kind, int many) {
            if (kind >= 0 && kind < counts.length) {
                counts[kind] = Math.max(0, Math.min(many, GREATEST_GATES));
            }
        }

        boolean holds(int kind, int k) {
            return k >= 0 && k < many(kind);
        }

        int get(int kind, int k) {
            if (kind < 0 || kind >= KINDS || k < 0 || k >= GREATEST_GATES) {
                return 0;
            }
            return rows[kind][k];
        }

        void set(int kind, int k, int value) {
            if (kind >= 0 && kind < KINDS && k >= 0 && k < GREATEST_GATES) {
                rows[kind][k] = value;
            }
        }

        void restart() {
            int bits = 0;
            for (int k = 0; k < many(LATCH); k++) {
                bits |= get(FIRST, k) << k;
            }
            latchBits = bits;
        }

        boolean inOrder() {
            int inputs = many(INPUT);
            int before = inputs + many(LATCH);
            return most == before + many(GATE)
                && countsUp(INPUT, 0) && countsUp(LATCH, inputs) && countsUp(GATE, before)
                && gatesLookBack();
        }

        private boolean countsUp(int kind, int before) {
            for (int k = 0; k < many(kind); k++) {
                if (get(kind, k) != 2 * (before + k + 1)) {
                    return false;
                }
            }
            return true;
        }

        private boolean gatesLookBack() {
            for (int k = 0; k < many(GATE); k++) {
                int left = get(LEFT, k);
                if (left >= get(GATE, k) || left < get(RIGHT, k)) {
                    return false;
                }
            }
            return true;
        }

        int step(int inputs) {
            mark(0, 0);
            for (int k = 0; k < many(INPUT); k++) {
                mark(get(INPUT, k), (inputs >>> k) & 1);
            }
            for (int k = 0; k < many(LATCH); k++) {
                mark(get(LATCH, k), (latchBits >>> k) & 1);
            }
            for (int k = 0; k < many(GATE); k++) {
                int gate = inSequence(k);
                mark(get(GATE, gate), truth(get(LEFT, gate)) & truth(get(RIGHT, gate)));
            }
            latchBits = truths(NEXT);
            return truths(OUTPUT);
        }

        private int truths(int kind) {
            int bits = 0;
            for (int k = 0; k < many(kind); k++) {
                bits |= truth(get(kind, k)) << k;
            }
            return bits;
        }

        private int truth(int literal) {
            return markOf(literal) ^ (literal & 1);
        }

        /** Finds the sequence in which each gate follows the gates that it rests on. */
        void arrange() {
            forget();
            mark(0, 1);
            markAll(INPUT);
            markAll(LATCH);
            for (int k = 0; k < many(GATE); k++) {
                int gate = firstReady();
                if (k < sequence.length) {
                    sequence[k] = gate;
                }
                mark(get(GATE, gate), 1);
            }
        }

        private void forget() {
            for (int value = 0; value < marks.length; value++) {
                marks[value] = 0;
            }
        }

        private void markAll(int kind) {
            for (int k = 0; k < many(kind); k++) {
                mark(get(kind, k), 1);
            }
        }

        private int firstReady() {
            for (int k = 0; k < many(GATE); k++) {
                if (markOf(get(GATE, k)) == 0
                    && markOf(get(LEFT, k)) != 0 && markOf(get(RIGHT, k)) != 0) {
                    return k;
                }
            }
            return 0;
        }

        private int inSequence(int k) {
            return k >= 0 && k < sequence.length ? sequence[k] : 0;
        }

        /** Becomes what the other design is when it is put in order. */
        void orderFrom(Design other) {
            numberAnew(other);
            copyInputsAndOutputs(other);
            copyLatches(other);
            copyGates(other);
            latchBits = other.latchBits;
            arrange();
        }

        private void numberAnew(Design other) {
            mark(0, 0);
            int value = 0;
            for (int k = 0; k < other.many(INPUT); k++) {
                value++;
                mark(other.get(INPUT, k), value);
            }
            for (int k = 0; k < other.many(LATCH); k++) {
                value++;
                mark(other.get(LATCH, k), value);
            }
            for (int k = 0; k < other.many(GATE); k++) {
                value++;
                mark(other.get(GATE, other.inSequence(k)), value);
            }
            most = value;
        }

        private void copyInputsAndOutputs(Design other) {
            setMany(INPUT, other.many(INPUT));
            for (int k = 0; k < many(INPUT); k++) {
                set(INPUT, k, renumbered(other.get(INPUT, k)));
            }
            setMany(OUTPUT, other.many(OUTPUT));
            for (int k = 0; k < many(OUTPUT); k++) {
                set(OUTPUT, k, renumbered(other.get(OUTPUT, k)));
            }
        }

        private void copyLatches(Design other) {
            setMany(LATCH, other.many(LATCH));
            for (int k = 0; k < many(LATCH); k++) {
                set(LATCH, k, renumbered(other.get(LATCH, k)));
                set(NEXT, k, renumbered(other.get(NEXT, k)));
                set(FIRST, k, other.get(FIRST, k));
            }
        }

        private void copyGates(Design other) {
            setMany(GATE, other.many(GATE));
            for (int k = 0; k < many(GATE); k++) {
                int gate = other.inSequence(k);
                int left = renumbered(other.get(LEFT, gate));
                int right = renumbered(other.get(RIGHT, gate));
                set(GATE, k, renumbered(other.get(GATE, gate)));
                set(LEFT, k, Math.max(left, right));
                set(RIGHT, k, Math.min(left, right));
            }
        }

        private int renumbered(int literal) {
            return 2 * markOf(literal) + (literal & 1);
        }

        private void mark(int literal, int what) {
            int value = literal >> 1;
            if (value >= 0 && value < marks.length) {
                marks[value] = what;
            }
        }

        private int markOf(int literal) {
            int value = literal >> 1;
            return value >= 0 && value < marks.length ? marks[value] : 0;
        }
    }

    /**
     * Reads a text of either kind. The first fault stays, and what is read behind it is used by
     * nobody: so no step has to ask whether the one ahead of it went well.
     */
    private static final class TextReader {
        private final Bytes text;
        private final boolean[] defined = new boolean[GREATEST_MOST + 1];
        private final int[] useLiterals = new int[2 * GREATEST_FEW + 2 * GREATEST_GATES];
        private final int[] usePlaces = new int[2 * GREATEST_FEW + 2 * GREATEST_GATES];
        private final int[] gatePlaces = new int[GREATEST_GATES];
        // A gate is a bit: 60 of them are fewer than a long has.
        private final long[] gateBits = new long[GREATEST_MOST + 1];
        private final long[] rests = new long[GREATEST_GATES];
        private int uses;
        private int place;
        private int fault;

        TextReader(Bytes text) {
            this.text = text;
        }

        /** Fills the design with what the text tells: the text's fault, or NONE. */
        int fill(Design into) {
            place = 0;
            fault = NONE;
            boolean packed = text.at(1) == 'i' && text.at(2) == 'g';
            header(into, packed);
            if (fault == NONE && packed) {
                packedLines(into);
                packedGates(into);
            } else if (fault == NONE) {
                plainLines(into);
                plainGates(into);
            }
            closing();
            if (fault == NONE && !packed) {
                findUndefined();
                findRound(into);
            }
            if (fault == NONE) {
                into.arrange();
            }
            return fault;
        }

        private void header(Design into, boolean packed) {
            expect('a');
            expect(packed ? 'i' : 'a');
            expect('g');
            into.setMost(blankAndNumber(GREATEST_MOST));
            into.setMany(INPUT, blankAndNumber(GREATEST_FEW));
            into.setMany(LATCH, blankAndNumber(GREATEST_FEW));
            into.setMany(OUTPUT, blankAndNumber(GREATEST_FEW));
            int room = into.most() - into.many(INPUT) - into.many(LATCH);
            expect(BLANK);
            int start = place;
            int gates = number(GREATEST_GATES);
            if (gates > room || packed && gates != room) {
                fail(start);
            }
            into.setMany(GATE, gates);
            expect(LINE_END);
        }

        private void plainLines(Design into) {
            uses = 0;
            for (int value = 0; value < defined.length; value++) {
                defined[value] = false;
            }
            int limit = 2 * into.most() + 1;
            for (int k = 0; k < into.many(INPUT) && fault == NONE; k++) {
                into.set(INPUT, k, definition(limit));
                expect(LINE_END);
            }
            for (int k = 0; k < into.many(LATCH) && fault == NONE; k++) {
                into.set(LATCH, k, definition(limit));
                expect(BLANK);
                into.set(NEXT, k, use(limit));
                into.set(FIRST, k, perhapsFirst());
                expect(LINE_END);
            }
            for (int k = 0; k < into.many(OUTPUT) && fault == NONE; k++) {
                into.set(OUTPUT, k, use(limit));
                expect(LINE_END);
            }
        }

        private void plainGates(Design into) {
            int limit = 2 * into.most() + 1;
            for (int k = 0; k < into.many(GATE) && fault == NONE; k++) {
                if (k < gatePlaces.length) {
                    gatePlaces[k] = place;
                }
                into.set(GATE, k, definition(limit));
                expect(BLANK);
                into.set(LEFT, k, use(limit));
                expect(BLANK);
                into.set(RIGHT, k, use(limit));
                expect(LINE_END);
            }
        }

        private void packedLines(Design into) {
            int limit = 2 * into.most() + 1;
            int literal = 0;
            for (int k = 0; k < into.many(INPUT); k++) {
                literal += 2;
                into.set(INPUT, k, literal);
            }
            for (int k = 0; k < into.many(LATCH) && fault == NONE; k++) {
                literal += 2;
                into.set(LATCH, k, literal);
                into.set(NEXT, k, number(limit));
                into.set(FIRST, k, perhapsFirst());
                expect(LINE_END);
            }
            for (int k = 0; k < into.many(OUTPUT) && fault == NONE; k++) {
                into.set(OUTPUT, k, number(limit));
                expect(LINE_END);
            }
        }

        private void packedGates(Design into) {
            int literal = 2 * (into.many(INPUT) + into.many(LATCH));
            for (int k = 0; k < into.many(GATE) && fault == NONE; k++) {
                literal += 2;
                int left = literal - difference(1, literal);
                int right = left - difference(0, left);
                into.set(GATE, k, literal);
                into.set(LEFT, k, left);
                into.set(RIGHT, k, right);
            }
        }

        private void closing() {
            int b = text.at(place);
            if (b != NONE && b != 'c') {
                fail(place);
            }
        }

        private void findUndefined() {
            for (int k = 0; k < uses && k < useLiterals.length && k < usePlaces.length; k++) {
                int value = useLiterals[k] >> 1;
                if (value > 0 && value < defined.length && !defined[value]) {
                    fail(usePlaces[k]);
                }
            }
        }

        /** Finds the first gate that rests on itself. */
        private void findRound(Design design) {
            int gates = Math.min(design.many(GATE), rests.length);
            noteWhatGatesRestOn(design, gates);
            for (int via = 0; via < gates; via++) {
                for (int k = 0; k < gates; k++) {
                    if (((rests[k] >>> via) & 1) != 0) {
                        rests[k] |= rests[via];
                    }
                }
            }
            for (int k = 0; k < gates && k < gatePlaces.length; k++) {
                if (((rests[k] >>> k) & 1) != 0) {
                    fail(gatePlaces[k]);
                }
            }
        }

        private void noteWhatGatesRestOn(Design design, int gates) {
            for (int value = 0; value < gateBits.length; value++) {
                gateBits[value] = 0;
            }
            for (int k = 0; k < gates; k++) {
                int value = design.get(GATE, k) >> 1;
                if (value >= 0 && value < gateBits.length) {
                    gateBits[value] = 1L << k;
                }
            }
            for (int k = 0; k < gates && k < rests.length; k++) {
                rests[k] = gateBit(design.get(LEFT, k)) | gateBit(design.get(RIGHT, k));
            }
        }

        private long gateBit(int literal) {
            int value = literal >> 1;
            return value >= 0 && value < gateBits.length ? gateBits[value] : 0;
        }

        /** A literal that nothing has defined before, and that is so now. */
        private int definition(int limit) {
            int start = place;
            int literal = number(limit);
            int value = literal >> 1;
            if (value <= 0 || value >= defined.length || (literal & 1) != 0 || defined[value]) {
                fail(start);
                return 0;
            }
            defined[value] = true;
            return literal;
        }

        /** A literal whose value something has to define, here or further on. */
        private int use(int limit) {
            int start = place;
            int literal = number(limit);
            if (uses >= 0 && uses < useLiterals.length && uses < usePlaces.length) {
                useLiterals[uses] = literal;
                usePlaces[uses] = start;
                uses++;
            }
            return literal;
        }

        private int perhapsFirst() {
            return text.at(place) == BLANK ? blankAndNumber(1) : 0;
        }

        private int blankAndNumber(int limit) {
            expect(BLANK);
            return number(limit);
        }

        /** The number here, or 0 with a fault: so that it is never above its limit. */
        private int number(int limit) {
            int start = place;
            int value = 0;
            // One turn more than digits may be, for the one that is a digit too many.
            for (int digits = 0; digits <= GREATEST_DIGITS && isDigit(text.at(place)); digits++) {
                if (digits == GREATEST_DIGITS || digits > 0 && value == 0) {
                    fail(place);
                    return 0;
                }
                value = 10 * value + text.at(place) - '0';
                place++;
            }
            if (place == start || value > limit) {
                fail(start);
                return 0;
            }
            return value;
        }

        private static boolean isDigit(int b) {
            return b >= '0' && b <= '9';
        }

        /** The difference here, or the least one with a fault. */
        private int difference(int least, int limit) {
            int start = place;
            int value = text.at(place);
            if (value == NONE) {
                fail(place);
                return least;
            }
            place++;
            if (value >= MORE) {
                int high = text.at(place);
                if (high < 1 || high >= MORE) {
                    fail(place);
                    return least;
                }
                place++;
                value += MORE * (high - 1);
            }
            if (value < least || value > limit) {
                fail(start);
                return least;
            }
            return value;
        }

        private void expect(int b) {
            if (text.at(place) == b) {
                place++;
            } else {
                fail(place);
            }
        }

        private void fail(int where) {
            if (fault == NONE) {
                fault = where;
            }
        }
    }

    /** Writes a design as a text of either kind. */
    private static final class PageWriter {
        private final Bytes page;

        PageWriter(Bytes page) {
            this.page = page;
        }

        void plain(Design design) {
            header(design, 'a');
            for (int k = 0; k < design.many(INPUT); k++) {
                lastNumber(design.get(INPUT, k));
            }
            for (int k = 0; k < design.many(LATCH); k++) {
                numberAndBlank(design.get(LATCH, k));
                nextAndFirst(design, k);
            }
            outputs(design);
            for (int k = 0; k < design.many(GATE); k++) {
                numberAndBlank(design.get(GATE, k));
                numberAndBlank(design.get(LEFT, k));
                lastNumber(design.get(RIGHT, k));
            }
        }

        void packed(Design design) {
            header(design, 'i');
            for (int k = 0; k < design.many(LATCH); k++) {
                nextAndFirst(design, k);
            }
            outputs(design);
            for (int k = 0; k < design.many(GATE); k++) {
                int left = design.get(LEFT, k);
                difference(design.get(GATE, k) - left);
                difference(left - design.get(RIGHT, k));
            }
        }

        private void header(Design design, int letter) {
            page.add('a');
            page.add(letter);
            page.add('g');
            page.add(BLANK);
            numberAndBlank(design.most());
            numberAndBlank(design.many(INPUT));
            numberAndBlank(design.many(LATCH));
            numberAndBlank(design.many(OUTPUT));
            lastNumber(design.many(GATE));
        }

        private void nextAndFirst(Design design, int k) {
            if (design.get(FIRST, k) == 1) {
                numberAndBlank(design.get(NEXT, k));
                lastNumber(1);
            } else {
                lastNumber(design.get(NEXT, k));
            }
        }

        private void outputs(Design design) {
            for (int k = 0; k < design.many(OUTPUT); k++) {
                lastNumber(design.get(OUTPUT, k));
            }
        }

        private void numberAndBlank(int value) {
            digits(value);
            page.add(BLANK);
        }

        private void lastNumber(int value) {
            digits(value);
            page.add(LINE_END);
        }

        /** Three digits are enough: no literal is above 199. */
        private void digits(int value) {
            if (value >= 100) {
                page.add('0' + value / 100 % 10);
            }
            if (value >= 10) {
                page.add('0' + value / 10 % 10);
            }
            page.add('0' + value % 10);
        }

        private void difference(int value) {
            if (value >= MORE) {
                page.add(value % MORE + MORE);
                page.add(value / MORE);
            } else {
                page.add(value);
            }
        }
    }
}
