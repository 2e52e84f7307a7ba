import java.util.ArrayList;
import java.util.List;

/** Many designs and many spoilt texts, drawn by a fixed row of numbers: the class against the model. */
public final class ModelTest {
    private static long state = 20261115L;

    /** 0 .. below - 1, the same ones in every run. */
    private static int draw(int below) {
        state = state * 6364136223846793005L + 1442695040888963407L;
        return (int) ((state >>> 33) % below);
    }

    private static <T> void shuffle(List<T> row) {
        for (int k = row.size() - 1; k > 0; k--) {
            int other = draw(k + 1);
            T kept = row.get(k);
            row.set(k, row.get(other));
            row.set(other, kept);
        }
    }

    /** A design with its values in any order, some left out, and its gates in any order. */
    private static Model design(int mostGates) {
        Model model = new Model();
        int inputs = draw(9);
        int latches = draw(9);
        int gates = draw(mostGates + 1);
        int defined = inputs + latches + gates;
        model.most = Math.min(99, defined + (draw(2) == 0 ? 0 : draw(30)));
        List<Integer> values = new ArrayList<>();
        for (int k = 1; k <= model.most; k++) {
            values.add(k);
        }
        boolean mixed = draw(3) > 0;
        if (mixed) {
            shuffle(values);
        }
        values = new ArrayList<>(values.subList(0, defined));
        for (int k = 0; k < inputs; k++) {
            model.inputs.add(2 * values.get(k));
        }
        for (int k = 0; k < latches; k++) {
            model.latches.add(new int[] {2 * values.get(inputs + k), literal(values, defined), draw(2)});
        }
        for (int k = draw(9); k > 0; k--) {
            model.outputs.add(literal(values, defined));
        }
        for (int k = inputs + latches; k < defined; k++) {
            int a = literal(values, k);
            int b = literal(values, k);
            model.gates.add(new int[] {2 * values.get(k), mixed ? a : Math.max(a, b), mixed ? b : Math.min(a, b)});
        }
        if (mixed) {
            shuffle(model.gates);
        }
        model.reset();
        return model;
    }

    /** A literal of value 0 or of one of the first values, rather of a late one so that chains get long. */
    private static int literal(List<Integer> values, int first) {
        int k = draw(3) == 0 ? first - draw(4) : draw(first + 1);
        return (k <= 0 || k > first ? 0 : 2 * values.get(k - 1)) + draw(2);
    }

    private static String spoilt(String text) {
        StringBuilder all = new StringBuilder(text);
        String likely = "0123456789 \nca\0\1\177\200\377";
        for (int times = 1 + draw(2); times > 0; times--) {
            int at = draw(all.length() + 1);
            char c = likely.charAt(draw(likely.length()));
            int how = draw(5);
            if (how == 0) {
                all.setLength(at);
            } else if (how == 1) {
                all.insert(at, c);
            } else if (at < all.length() && how == 2) {
                all.deleteCharAt(at);
            } else if (at < all.length()) {
                all.setCharAt(at, c);
            }
        }
        return all.toString();
    }

    /** What the model answers to the text, and NONE or the fault in one number. */
    private static Model readBoth(Desk desk, Model before, String text) {
        Model after = before;
        int due = DesignTexts.NONE;
        try {
            after = Model.read(text);
        } catch (Model.Fault fault) {
            due = fault.place;
        }
        Desk.same("read of " + Desk.shown(text), desk.read(text), due);
        return after;
    }

    private static void cycleBoth(Desk desk, Model model, int times) {
        for (int k = 0; k < times; k++) {
            int inputs = draw(Integer.MAX_VALUE) - draw(Integer.MAX_VALUE);
            Desk.same("cycle of " + model.plain(), desk.x().cycle(inputs), model.cycle(inputs));
            Desk.same("latches of " + model.plain(), desk.x().latches(), model.latchBits());
        }
    }

    /** As many bytes as the object's calls allow, spread over the whole. */
    private static void sameWritten(Desk desk, int kind, String due) {
        Desk.same("bytes written", desk.x().write(kind), due.length());
        int step = 1 + due.length() / Math.max(1, desk.callsLeft() / 3);
        for (int k = draw(step); k < due.length(); k += step) {
            Desk.same("byte " + k + " of " + Desk.shown(due), desk.x().written(k), (int) due.charAt(k));
        }
        Desk.same("behind the end", desk.x().written(due.length()), DesignTexts.NONE);
    }

    private static void goThrough(int mostGates) {
        Model drawn = design(mostGates);
        Desk desk = new Desk();
        Model model = readBoth(desk, new Model(), drawn.plain());
        Desk.same("the design that was drawn", model.plain(), drawn.plain());
        cycleBoth(desk, model, 4);
        if (mostGates < 20) {
            Desk.same("seen", desk.seen(), model.seen(0));
        }
        desk.x().order();
        model = model.ordered();
        cycleBoth(desk, model, 4);
        sameWritten(desk, 0, model.plain());
        sameWritten(desk, 1, model.packed());
        Desk.same("at last in order", desk.x().about(6), 1);
    }

    private static void packedAgain(int mostGates) {
        Model ordered = design(mostGates).ordered();
        ordered.reset();
        Desk desk = new Desk();
        Model model = readBoth(desk, new Model(), ordered.packed() + (draw(2) == 0 ? "" : "c\0\n"));
        Desk.same("packed and back", desk.seen(), ordered.seen(0));
        cycleBoth(desk, model, 4);
        desk.x().reset();
        model.reset();
        cycleBoth(desk, model, 2);
    }

    private static void spoiltTexts() {
        Desk desk = new Desk();
        Model model = readBoth(desk, new Model(), design(4).plain());
        for (int k = 0; k < 4; k++) {
            Model other = design(draw(8) + 1);
            model = readBoth(desk, model, spoilt(draw(2) == 0 ? other.plain() : other.ordered().packed()));
            cycleBoth(desk, model, 1);
        }
        Desk.same("seen after spoilt texts", desk.seen(), model.seen(0));
    }

    /** Small texts with any literals: values that nothing defines, and gates that rest on themselves. */
    private static void anyLiterals() {
        Model model = new Model();
        int gates = 1 + draw(5);
        model.most = gates + draw(3);
        List<Integer> values = new ArrayList<>();
        for (int k = 1; k <= model.most; k++) {
            values.add(k);
        }
        shuffle(values);
        boolean all = draw(4) == 0;
        int below = all ? 2 * model.most + 2 : 2 * gates + 2;
        for (int k = 0; k < gates; k++) {
            int literal = 2 * (all ? values.get(k) : k + 1);
            model.gates.add(new int[] {literal, draw(3) == 0 ? draw(2) : draw(below), draw(2) == 0 ? draw(2) : draw(below)});
        }
        shuffle(model.gates);
        Desk desk = new Desk();
        Model read = readBoth(desk, new Model(), model.plain());
        Desk.same("seen", desk.seen(), read.seen(0));
    }

    public static void main(String[] args) {
        for (int k = 0; k < 400; k++) {
            goThrough(10);
            goThrough(60);
            packedAgain(30);
        }
        for (int k = 0; k < 3000; k++) {
            spoiltTexts();
            anyLiterals();
        }
        Desk.end();
    }
}
