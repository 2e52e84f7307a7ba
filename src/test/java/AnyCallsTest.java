import java.util.List;
import java.util.NoSuchElementException;

/**
 * Drawn calls with any arguments in any state, 512 of each object, each answer or exception against the model's: so
 * nothing but what the document names is ever thrown, and a refused call changes nothing.
 */
public final class AnyCallsTest {
    private static final int[] EXTREMES = {Integer.MIN_VALUE, Integer.MIN_VALUE + 1, -256, -2, -1, 0, 1, 2, 3, 4, 5, 6,
        7, 8, 9, 13, 14, 59, 60, 61, 99, 100, 255, 256, 1499, 1500, 1501, 65536, Integer.MAX_VALUE - 1, Integer.MAX_VALUE};
    private static final String[] TEXTS = {"aag 0 0 0 0 0\n", "aig 0 0 0 0 0\nc", "aag 4 2 1 1 1\n2\n4\n6 8 1\n9\n8 3 6\n",
        "aig 4 2 1 1 1\n8 1\n9\n\2\3", "aag 9 1 2 2 2\n18\n4 8 1\n6 5\n2\n9\n2 8 19\n8 6 4\n", "aag 3 1 0 1 2\n2\n6\n6 4 2\n4 6 2\n",
        "aag 3 1 0 1 1\n2\n4\n6 2 2\n", "aag 100", "aig 2 1 0 1 1\n4\n\2\3", "x", "aag 2 0 2 2 0\n4 2 1\n2 5\n2\n5\ncc"};
    private static long state = 61116L;

    private Model model = new Model();
    private final StringBuilder text = new StringBuilder();
    private String page = "";
    private final Desk desk = new Desk();
    private String putting = "";

    private static int draw(int below) {
        state = state * 6364136223846793005L + 1442695040888963407L;
        return (int) ((state >>> 33) % below);
    }

    private static int any() {
        return draw(3) == 0 ? EXTREMES[draw(EXTREMES.length)] : draw(2) == 0 ? draw(9) : (int) (state >>> 17);
    }

    private int bytesOf(int many, int v) {
        if (many < 1 || many > 4) {
            throw new IllegalArgumentException();
        }
        if (text.length() + many > 1500) {
            throw new UnsupportedOperationException();
        }
        for (int k = 0; k < many; k++) {
            text.append((char) (v >> 8 * k & 255));
        }
        return text.length();
    }

    private int read() {
        String all = text.toString();
        text.setLength(0);
        try {
            model = Model.read(all);
            return DesignTexts.NONE;
        } catch (Model.Fault fault) {
            return fault.place;
        }
    }

    private int about(int what) {
        List<Integer> all = List.of(model.most, model.inputs.size(), model.latches.size(), model.outputs.size(),
            model.gates.size(), text.length(), model.inOrder() ? 1 : 0);
        return what >= 0 && what < all.size() ? all.get(what) : DesignTexts.NONE;
    }

    private int has(int kind, int k) {
        if (kind < 0 || kind > 7) {
            throw new IllegalArgumentException();
        }
        List<Integer> row = model.rows().get(kind);
        if (k < 0 || k >= row.size()) {
            throw new NoSuchElementException();
        }
        return row.get(k);
    }

    private int write(int kind) {
        if (kind != 0 && kind != 1) {
            throw new IllegalArgumentException();
        }
        if (kind == 1 && !model.inOrder()) {
            throw new IllegalStateException();
        }
        page = kind == 0 ? model.plain() : model.packed();
        return page.length();
    }

    private int written(int k) {
        if (k < 0) {
            throw new IndexOutOfBoundsException();
        }
        return k < page.length() ? page.charAt(k) : DesignTexts.NONE;
    }

    private static String told(Desk.Call call) {
        try {
            return "answer " + call.answer();
        } catch (RuntimeException e) {
            return e.getClass().getName();
        }
    }

    private static void both(String what, Desk.Call got, Desk.Call due) {
        Desk.same(what, told(got), told(due));
    }

    /** Whole texts are put piece by piece, or the drawn calls would hardly ever put one. */
    private void putOn() {
        if (putting.isEmpty()) {
            putting = TEXTS[draw(TEXTS.length)];
        }
        int many = Math.min(1 + draw(4), putting.length());
        int v = 0;
        for (int k = 0; k < many; k++) {
            v |= putting.charAt(k) << 8 * k;
        }
        putting = putting.substring(many);
        putBoth(many, v);
        if (putting.isEmpty() && draw(8) > 0) {
            both("read", () -> desk.x().read(), this::read);
        }
    }

    private void putBoth(int many, int v) {
        both("put(" + many + ", " + v + ")", () -> desk.x().put(many, v), () -> bytesOf(many, v));
    }

    private void orderBoth() {
        desk.x().order();
        model = model.ordered();
    }

    private void resetBoth() {
        desk.x().reset();
        model.reset();
    }

    private void oneCall(int which, int a, int b) {
        switch (which) {
            case 0 -> putBoth(a, b);
            case 1 -> both("about(" + a + ")", () -> desk.x().about(a), () -> about(a));
            case 2 -> both("has(" + a + ", " + b + ")", () -> desk.x().has(a, b), () -> has(a, b));
            case 3 -> both("write(" + a + ")", () -> desk.x().write(a), () -> write(a));
            case 4 -> both("write(" + (a & 1) + ")", () -> desk.x().write(a & 1), () -> write(a & 1));
            case 5 -> both("written(" + a + ")", () -> desk.x().written(a), () -> written(a));
            case 6 -> both("written(" + (a & 31) + ")", () -> desk.x().written(a & 31), () -> written(a & 31));
            case 7 -> both("cycle(" + a + ")", () -> desk.x().cycle(a), () -> model.cycle(a));
            case 8 -> both("latches", () -> desk.x().latches(), () -> model.latchBits());
            case 9 -> resetBoth();
            case 10 -> orderBoth();
            default -> putOn();
        }
    }

    /** Some objects read now and then only what comes, others fill their text to the last byte. */
    private void useUp(boolean filling) {
        if (filling) {
            desk.put("x".repeat(1470));
            text.append("x".repeat(1470));
        }
        while (desk.callsLeft() > 2) {
            int which = draw(200);
            if (which == 0) {
                both("read", () -> desk.x().read(), this::read);
            } else {
                oneCall(filling && which > 190 ? 0 : which % 24, any(), any());
            }
        }
    }

    public static void main(String[] args) {
        for (int k = 0; k < 400; k++) {
            new AnyCallsTest().useUp(k % 8 == 0);
        }
        Desk.end();
    }
}
