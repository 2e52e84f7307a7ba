import java.util.NoSuchElementException;

/** One object under test, with its calls counted, and answers compared for all desks together. */
final class Desk {
    /** A call of the object whose exception is to be seen. */
    interface Call {
        int answer();
    }

    static final int MOST_CALLS = 512;
    private static int wrong = 0;
    private static int compared = 0;

    private final DesignTexts object = new DesignTexts();
    private int calls = 0;

    /** The object, for one call more. */
    DesignTexts x() {
        calls++;
        if (calls > MOST_CALLS) {
            throw new AssertionError("the test makes more calls than the document promises to answer");
        }
        return object;
    }

    int callsLeft() {
        return MOST_CALLS - calls;
    }

    static int wrong() {
        return wrong;
    }

    static int compared() {
        return compared;
    }

    static void same(String what, Object got, Object due) {
        compared++;
        if (!due.equals(got)) {
            wrong++;
            System.out.println(what + ": answered " + got + ", due is " + due);
        }
    }

    /** The very class matters: IllegalArgumentException must not stand in for one below it. */
    static void throwing(String what, Class<? extends RuntimeException> due, Call call) {
        String got;
        try {
            got = "answer " + call.answer();
        } catch (RuntimeException e) {
            got = e.getClass().getSimpleName();
        }
        same(what, got, due.getSimpleName());
    }

    static void end() {
        System.out.println(wrong == 0 ? compared + " answers are as due" : wrong + " of " + compared + " are not as due");
        if (wrong != 0 || compared == 0) {
            System.exit(1);
        }
    }

    /** Puts the characters 0 .. 255 of a text as bytes, four by four. */
    void put(String text) {
        for (int k = 0; k < text.length(); k += 4) {
            int many = Math.min(4, text.length() - k);
            int v = 0;
            for (int b = 0; b < many; b++) {
                v |= text.charAt(k + b) << (8 * b);
            }
            x().put(many, v);
        }
    }

    /** The fault of a text, read by a new object: the text is empty then, with a fault or without. */
    static void fault(String text, int due) {
        Desk desk = new Desk();
        same("fault of " + shown(text), desk.read(text), due);
        same("bytes after " + shown(text), desk.x().about(5), 0);
    }

    static void fine(String text) {
        fault(text, DesignTexts.NONE);
    }

    /** A new object that has read a text without a fault. */
    static Desk with(String text) {
        Desk desk = new Desk();
        desk.readWell(text);
        return desk;
    }

    int read(String text) {
        put(text);
        return x().read();
    }

    void readWell(String text) {
        same("read of " + shown(text), read(text), DesignTexts.NONE);
    }

    String write(int kind) {
        int many = x().write(kind);
        StringBuilder text = new StringBuilder();
        for (int k = 0; k < many; k++) {
            text.append((char) x().written(k));
        }
        same("byte behind the end", x().written(many), DesignTexts.NONE);
        return text.toString();
    }

    /** All that the document lets a caller see of the design and the text. */
    String seen() {
        StringBuilder all = new StringBuilder();
        for (int what = 0; what <= 6; what++) {
            all.append(x().about(what)).append(' ');
        }
        int[] owner = {1, 2, 3, 4, 2, 2, 4, 4};
        for (int kind = 0; kind < 8; kind++) {
            all.append("| ");
            int many = x().about(owner[kind]);
            for (int k = 0; k < many; k++) {
                all.append(x().has(kind, k)).append(' ');
            }
        }
        return all.append("latches ").append(x().latches()).toString();
    }

    static String shown(String text) {
        StringBuilder all = new StringBuilder("\"");
        for (char c : text.toCharArray()) {
            if (c == '\n') {
                all.append("\\n");
            } else if (c < 32 || c > 126) {
                all.append("\\x").append(Integer.toHexString(c));
            } else {
                all.append(c);
            }
        }
        return all.append('"').toString();
    }

    static final Class<IllegalArgumentException> ARGUMENT = IllegalArgumentException.class;
    static final Class<IllegalStateException> STATE = IllegalStateException.class;
    static final Class<IndexOutOfBoundsException> INDEX = IndexOutOfBoundsException.class;
    static final Class<UnsupportedOperationException> UNSUPPORTED = UnsupportedOperationException.class;
    static final Class<NoSuchElementException> MISSING = NoSuchElementException.class;
}
