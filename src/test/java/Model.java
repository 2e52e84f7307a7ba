import java.util.ArrayList;
import java.util.Arrays;
import java.util.HashMap;
import java.util.HashSet;
import java.util.List;
import java.util.Map;
import java.util.Set;

/**
 * The document told a second time, as plainly as the Java library lets it be told and by other
 * means than the class: by pieces of a text, sets, maps and recursion. It changes no design; it makes new ones.
 */
final class Model {
    /** The end of a reading: the place of the fault. */
    static final class Fault extends Exception {
        private static final long serialVersionUID = 1L;
        final int place;

        Fault(int place) {
            this.place = place;
        }
    }

    /** A latch {literal, next, at first}; a gate {literal, left, right}. */
    int most = 0;
    final List<Integer> inputs = new ArrayList<>();
    final List<int[]> latches = new ArrayList<>();
    final List<Integer> outputs = new ArrayList<>();
    final List<int[]> gates = new ArrayList<>();
    List<Integer> now = new ArrayList<>();

    private String rest;
    private int place;

    static Model read(String text) throws Fault {
        Model model = new Model();
        model.rest = text;
        boolean packed = text.length() > 2 && text.substring(1, 3).equals("ig");
        if (packed) {
            model.readPacked();
        } else {
            model.readPlain();
        }
        model.reset();
        return model;
    }

    private int[] header(String name) throws Fault {
        for (char c : name.toCharArray()) {
            take(c);
        }
        int[] limits = {99, 8, 8, 8, 60};
        int[] n = new int[5];
        for (int k = 0; k < 5; k++) {
            take(' ');
            int start = place;
            n[k] = number(limits[k]);
            int sum = n[1] + n[2] + n[4];
            if (k == 4 && (sum > n[0] || name.equals("aig") && sum != n[0])) {
                throw new Fault(start);
            }
        }
        take('\n');
        most = n[0];
        return n;
    }

    private void readPlain() throws Fault {
        int[] n = header("aag");
        Set<Integer> defined = new HashSet<>(List.of(0));
        List<int[]> used = new ArrayList<>();
        List<Integer> gatePlaces = new ArrayList<>();
        for (int k = 0; k < n[1]; k++) {
            inputs.add(definition(defined));
            take('\n');
        }
        for (int k = 0; k < n[2]; k++) {
            int literal = definition(defined);
            take(' ');
            latches.add(new int[] {literal, use(used), first()});
            take('\n');
        }
        for (int k = 0; k < n[3]; k++) {
            outputs.add(use(used));
            take('\n');
        }
        for (int k = 0; k < n[4]; k++) {
            gatePlaces.add(place);
            int literal = definition(defined);
            take(' ');
            int left = use(used);
            take(' ');
            gates.add(new int[] {literal, left, use(used)});
            take('\n');
        }
        close();
        for (int[] u : used) {
            if (!defined.contains(u[0] / 2)) {
                throw new Fault(u[1]);
            }
        }
        for (int k = 0; k < gates.size(); k++) {
            Set<Integer> reached = new HashSet<>();
            reach(gates.get(k), reached);
            if (reached.contains(gates.get(k)[0] / 2)) {
                throw new Fault(gatePlaces.get(k));
            }
        }
    }

    private void reach(int[] gate, Set<Integer> reached) {
        for (int side = 1; side <= 2; side++) {
            int value = gate[side] / 2;
            if (reached.add(value)) {
                for (int[] other : gates) {
                    if (other[0] / 2 == value) {
                        reach(other, reached);
                    }
                }
            }
        }
    }

    private void readPacked() throws Fault {
        int[] n = header("aig");
        int literal = 2;
        for (int k = 0; k < n[1]; k++, literal += 2) {
            inputs.add(literal);
        }
        for (int k = 0; k < n[2]; k++, literal += 2) {
            latches.add(new int[] {literal, number(2 * most + 1), first()});
            take('\n');
        }
        for (int k = 0; k < n[3]; k++) {
            outputs.add(number(2 * most + 1));
            take('\n');
        }
        for (int k = 0; k < n[4]; k++, literal += 2) {
            int left = literal - difference(1, literal);
            gates.add(new int[] {literal, left, left - difference(0, left)});
        }
        close();
    }

    private int definition(Set<Integer> defined) throws Fault {
        int start = place;
        int literal = number(2 * most + 1);
        if (literal % 2 == 1 || !defined.add(literal / 2)) {
            throw new Fault(start);
        }
        return literal;
    }

    private int use(List<int[]> used) throws Fault {
        int start = place;
        int literal = number(2 * most + 1);
        used.add(new int[] {literal, start});
        return literal;
    }

    private int first() throws Fault {
        if (!rest.startsWith(" ")) {
            return 0;
        }
        take(' ');
        return number(1);
    }

    private int number(int limit) throws Fault {
        int start = place;
        int digits = 0;
        while (digits < rest.length() && rest.charAt(digits) >= '0' && rest.charAt(digits) <= '9') {
            digits++;
        }
        if (digits == 0) {
            throw new Fault(place);
        }
        int longest = rest.charAt(0) == '0' ? 1 : 4;
        if (digits > longest) {
            throw new Fault(place + longest);
        }
        int value = Integer.parseInt(rest.substring(0, digits));
        skip(digits);
        if (value > limit) {
            throw new Fault(start);
        }
        return value;
    }

    private int difference(int least, int limit) throws Fault {
        int start = place;
        int value = oneByte();
        if (value > 127) {
            int second = rest.isEmpty() ? 0 : rest.charAt(0);
            if (second == 0 || second > 127) {
                throw new Fault(place);
            }
            value = value % 128 + 128 * oneByte();
        }
        if (value < least || value > limit) {
            throw new Fault(start);
        }
        return value;
    }

    private int oneByte() throws Fault {
        if (rest.isEmpty()) {
            throw new Fault(place);
        }
        int b = rest.charAt(0);
        skip(1);
        return b;
    }

    private void take(char c) throws Fault {
        if (rest.isEmpty() || rest.charAt(0) != c) {
            throw new Fault(place);
        }
        skip(1);
    }

    private void close() throws Fault {
        if (!rest.isEmpty()) {
            take('c');
        }
    }

    private void skip(int many) {
        rest = rest.substring(many);
        place += many;
    }

    void reset() {
        now = new ArrayList<>();
        for (int[] latch : latches) {
            now.add(latch[2]);
        }
    }

    int latchBits() {
        int bits = 0;
        for (int k = 0; k < now.size(); k++) {
            bits += now.get(k) << k;
        }
        return bits;
    }

    int cycle(int bits) {
        Map<Integer, Integer> values = new HashMap<>(Map.of(0, 0));
        for (int k = 0; k < inputs.size(); k++) {
            values.put(inputs.get(k) / 2, bits >> k & 1);
        }
        for (int k = 0; k < latches.size(); k++) {
            values.put(latches.get(k)[0] / 2, now.get(k));
        }
        int told = 0;
        for (int k = 0; k < outputs.size(); k++) {
            told += truth(outputs.get(k), values) << k;
        }
        List<Integer> next = new ArrayList<>();
        for (int[] latch : latches) {
            next.add(truth(latch[1], values));
        }
        now = next;
        return told;
    }

    private int truth(int literal, Map<Integer, Integer> values) {
        int value = literal / 2;
        if (!values.containsKey(value)) {
            for (int[] gate : gates) {
                if (gate[0] / 2 == value) {
                    values.put(value, truth(gate[1], values) * truth(gate[2], values));
                }
            }
        }
        return literal % 2 == 0 ? values.get(value) : 1 - values.get(value);
    }

    boolean inOrder() {
        List<Integer> defined = new ArrayList<>(inputs);
        latches.forEach(latch -> defined.add(latch[0]));
        gates.forEach(gate -> defined.add(gate[0]));
        List<Integer> due = new ArrayList<>();
        for (int k = 1; k <= most; k++) {
            due.add(2 * k);
        }
        return defined.equals(due) && gates.stream().allMatch(g -> g[1] < g[0] && g[1] >= g[2]);
    }

    Model ordered() {
        Map<Integer, Integer> anew = new HashMap<>(Map.of(0, 0));
        inputs.forEach(literal -> anew.put(literal / 2, anew.size()));
        latches.forEach(latch -> anew.put(latch[0] / 2, anew.size()));
        List<int[]> left = new ArrayList<>(gates);
        List<int[]> sorted = new ArrayList<>();
        while (!left.isEmpty()) {
            int[] ready = left.stream()
                .filter(g -> anew.containsKey(g[1] / 2) && anew.containsKey(g[2] / 2)).findFirst().get();
            anew.put(ready[0] / 2, anew.size());
            sorted.add(ready);
            left.remove(ready);
        }
        Model model = new Model();
        model.most = anew.size() - 1;
        inputs.forEach(literal -> model.inputs.add(renumbered(literal, anew)));
        latches.forEach(l -> model.latches.add(new int[] {renumbered(l[0], anew), renumbered(l[1], anew), l[2]}));
        outputs.forEach(literal -> model.outputs.add(renumbered(literal, anew)));
        for (int[] g : sorted) {
            int[] sides = {renumbered(g[1], anew), renumbered(g[2], anew)};
            Arrays.sort(sides);
            model.gates.add(new int[] {renumbered(g[0], anew), sides[1], sides[0]});
        }
        model.now = now;
        return model;
    }

    private static int renumbered(int literal, Map<Integer, Integer> anew) {
        return 2 * anew.get(literal / 2) + literal % 2;
    }

    String plain() {
        StringBuilder text = new StringBuilder(head("aag"));
        inputs.forEach(literal -> text.append(literal).append('\n'));
        latches.forEach(l -> text.append(l[0]).append(' ').append(l[1]).append(l[2] == 1 ? " 1\n" : "\n"));
        outputs.forEach(literal -> text.append(literal).append('\n'));
        gates.forEach(g -> text.append(g[0]).append(' ').append(g[1]).append(' ').append(g[2]).append('\n'));
        return text.toString();
    }

    String packed() {
        StringBuilder text = new StringBuilder(head("aig"));
        latches.forEach(l -> text.append(l[1]).append(l[2] == 1 ? " 1\n" : "\n"));
        outputs.forEach(literal -> text.append(literal).append('\n'));
        gates.forEach(g -> text.append(bytes(g[0] - g[1])).append(bytes(g[1] - g[2])));
        return text.toString();
    }

    private String head(String name) {
        return name + " " + most + " " + inputs.size() + " " + latches.size() + " "
            + outputs.size() + " " + gates.size() + "\n";
    }

    private static String bytes(int difference) {
        return difference < 128 ? "" + (char) difference : "" + (char) (difference | 128) + (char) (difference >> 7);
    }

    /** A row for each kind by which a caller asks. */
    List<List<Integer>> rows() {
        return List.of(inputs, column(latches, 0), outputs, column(gates, 0),
            column(latches, 1), column(latches, 2), column(gates, 1), column(gates, 2));
    }

    /** The design in the words in which a desk tells what it has seen. */
    String seen(int bytes) {
        StringBuilder all = new StringBuilder();
        all.append(most).append(' ').append(inputs.size()).append(' ').append(latches.size()).append(' ');
        all.append(outputs.size()).append(' ').append(gates.size()).append(' ');
        all.append(bytes).append(' ').append(inOrder() ? 1 : 0).append(' ');
        for (List<Integer> row : rows()) {
            all.append("| ");
            row.forEach(x -> all.append(x).append(' '));
        }
        return all.append("latches ").append(latchBits()).toString();
    }

    private static List<Integer> column(List<int[]> rows, int k) {
        List<Integer> column = new ArrayList<>();
        rows.forEach(row -> column.add(row[k]));
        return column;
    }
}
