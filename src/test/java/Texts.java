/** Good texts for tests, small and large. */
final class Texts {
    private Texts() {
    }

    /** A plain text with so many of each, in order but for MOST, which may be more than they are. */
    static String plain(int most, int inputs, int latches, int outputs, int gates) {
        StringBuilder text = new StringBuilder(head("aag", most, inputs, latches, outputs, gates));
        int literal = 0;
        for (int k = 0; k < inputs; k++) {
            literal += 2;
            text.append(literal).append('\n');
        }
        for (int k = 0; k < latches; k++) {
            literal += 2;
            text.append(literal).append(" 0\n");
        }
        text.append("1\n".repeat(outputs));
        for (int k = 0; k < gates; k++) {
            literal += 2;
            text.append(literal).append(' ').append(literal - 1).append(' ').append(literal - 1).append('\n');
        }
        return text.toString();
    }

    /** The packed text of the same design, with MOST as many as there are. */
    static String packed(int inputs, int latches, int outputs, int gates) {
        return head("aig", inputs + latches + gates, inputs, latches, outputs, gates)
            + "0\n".repeat(latches) + "1\n".repeat(outputs) + "\1\0".repeat(gates);
    }

    static String head(String name, int most, int inputs, int latches, int outputs, int gates) {
        return name + " " + most + " " + inputs + " " + latches + " " + outputs + " " + gates + "\n";
    }

    /**
     * The longest plain text without a c: as many of each as can be, by the greatest literals that can be; and
     * gates the wrong way round, so that the first one rests on all the others. All of them are 1 if input 0
     * alone is 1, and all are 0 if input 0 is 0.
     */
    static String largest() {
        StringBuilder text = new StringBuilder("aag 99 8 8 8 60\n");
        for (int k = 0; k < 8; k++) {
            text.append(184 + 2 * k).append('\n');
        }
        for (int k = 0; k < 8; k++) {
            text.append(168 + 2 * k).append(' ').append(184 + 2 * k).append(" 1\n");
        }
        for (int k = 0; k < 8; k++) {
            text.append(167 - k).append('\n');
        }
        for (int k = 0; k < 60; k++) {
            int left = k < 59 ? gateOfLargest(k + 1) : 184;
            text.append(gateOfLargest(k)).append(' ').append(left).append(' ').append(187 + 2 * (k % 7)).append('\n');
        }
        return text.toString();
    }

    /** The gates go down from 166 to 48; the values below that are left out. */
    private static int gateOfLargest(int k) {
        return 166 - 2 * k;
    }
}
