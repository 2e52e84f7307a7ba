/** Promise 3 with Terms 1 and 2: where the fault of a text is. */
public final class FaultsTest {
    private static void fault(String text, int due) {
        Desk.fault(text, due);
    }

    private static void fine(String text) {
        Desk.fine(text);
    }

    private static void beginnings() {
        fault("", 0);
        fault("a", 1);
        fault("b", 0);
        fault("ai", 1);
        fault("aix", 1);
        fault("aa", 2);
        fault("aai", 2);
        fault("aag", 3);
        fault("aig", 3);
        fault("xig 0 0 0 0 0\n", 0);
        fault("xag 0 0 0 0 0\n", 0);
        fault("Aag 0 0 0 0 0\n", 0);
        fault("aag0 0 0 0 0\n", 3);
        fault("aag\n", 3);
        fault("aag  0", 4);
        fault("aag 0  0", 6);
        fault("aag 0\n", 5);
        fault("aag 0 0 0 0\n", 11);
        fault("aag 0 0 0 0 0", 13);
        fault("aag 0 0 0 0 0 ", 13);
        fault("aag 0 0 0 0 0\r\n", 13);
        fault("aag -1", 4);
        fine("aag 0 0 0 0 0\n");
        fine("aig 0 0 0 0 0\n");
    }

    private static void numbers() {
        fault("aag 07", 5);
        fault("aag 00", 5);
        fault("aag 12345", 8);
        fault("aag 10000", 8);
        fault("aag 1234", 4);
        fault("aag 1234x", 4);
        fault("aag 100", 4);
        fault("aag 100x", 4);
        fault("aag 99", 6);
        fault("aag 99x", 6);
        fault("aag 9 9", 6);
        fault("aag 9 9 9 9 61", 6);
        fault("aag 9 8 9", 8);
        fault("aag 9 0 0 9", 10);
        fault("aag 99 0 0 0 61\n", 13);
        fault("aag 99 0 0 0 600", 13);
        fault("aag 99 0 0 0 60001", 17);
        fault("aag 99 8 8 8 60\n", 16);
    }

    private static void sums() {
        fault("aag 1 1 0 1 1\n", 12);
        fault("aag 1 8 8 8 0", 12);
        fault("aag 0 1", 7);
        fault("aag 0 8 9", 8);
        fault("aag 2 1 1 0 1", 12);
        fault("aag 0 1 0 0 0x", 12);
        fault("aag 3 1 1 0 1", 13);
        fault("aag 9 1 1 0 1\n", 14);
        fault("aig 3 1 0 1 1\n", 12);
        fault("aig 2 1 0 0 0\n", 12);
        fault("aig 1 1 1 0 0", 12);
        fault("aig 1 0 0 0 0", 12);
        fine("aag 5 0 0 0 0\n");
        fine("aag 99 0 0 0 0\n");
    }

    private static void plainLines() {
        String two = "aag 3 2 0 0 0\n";
        fault(two, 14);
        fault(two + "2", 15);
        fault(two + "2 ", 15);
        fault(two + "3", 14);
        fault(two + "0", 14);
        fault(two + "00", 15);
        fault(two + "0x", 14);
        fault(two + "8", 14);
        fault(two + "8x", 14);
        fault(two + "x", 14);
        fault(two + "\n", 14);
        fault(two + "2\n2", 16);
        fault(two + "2\n2\n", 16);
        fault(two + "2\n20000", 20);
        fault(two + "2\n4", 17);
        fine(two + "2\n4\n");
        fine(two + "6\n2\n");
        fault(two + "2\n4\n6", 18);
        fault(two + "2\n4\n\n", 18);
        fine(two + "2\n4\nc");
        fine(two + "2\n4\nc\n\u0000\u00ff x");
        fine(two + "2\n4\ncc");
        fault(two + "2\n4\nC", 18);
    }

    private static void plainLatches() {
        String one = "aag 2 1 1 0 0\n2\n";
        fault(one + "2", 16);
        fault(one + "2 4\n", 16);
        fault(one + "5 4\n", 16);
        fault(one + "4\n", 17);
        fault(one + "4 6\n", 18);
        fault(one + "4 5", 19);
        fault(one + "4 5 ", 20);
        fault(one + "4 5 2", 20);
        fault(one + "4 5 2\n", 20);
        fault(one + "4 5 10\n", 20);
        fault(one + "4 5 01\n", 21);
        fault(one + "4 5 x", 20);
        fault(one + "4 5 1", 21);
        fault(one + "4 5 1 ", 21);
        fault(one + "4 5x", 19);
        fine(one + "4 5\n");
        fine(one + "4 5 0\n");
        fine(one + "4 4 1\n");
        fine(one + "4 0 1\n");
        fine(one + "4 1\n");
    }

    private static void plainGates() {
        String one = "aag 3 1 0 1 1\n2\n6\n";
        fault(one + "6", 19);
        fault(one + "2", 18);
        fault(one + "7", 18);
        fault(one + "6 8", 20);
        fault(one + "6 2\n", 21);
        fault(one + "6 2 8", 22);
        fault(one + "6 2 3", 23);
        fault(one + "6 2 3 ", 23);
        fault(one + "6 2 3x", 23);
        fine(one + "6 2 3\n");
        fine(one + "6 1 0\n");
        fault(one + "6 2 3\nx", 24);
        fault(one + "6 2 3\n ", 24);
        fault("aag 9 1 0 0 2\n2\n4 2 2\n4 2 2\n", 22);
    }

    private static void undefinedValues() {
        fault("aag 3 1 0 1 1\n2\n4\n6 2 2\n", 16);
        fault("aag 3 1 0 1 1\n2\n4\n6 2 2\nx", 24);
        fault("aag 3 1 0 1 1\n2\n5\n6 2 2\nc", 16);
        fault("aag 3 1 0 1 1\n2\n6\n6 4 2\n", 20);
        fault("aag 3 1 0 1 1\n2\n6\n6 2 5\n", 22);
        fault("aag 3 1 1 0 0\n2\n4 6\n", 18);
        fault("aag 3 1 1 1 0\n2\n4 6\n6\n", 18);
        fault("aag 3 1 1 1 0\n2\n4 6 1\n6\n", 18);
        fault("aag 3 0 0 1 1\n1\n2 2 4\n", 20);
        fine("aag 3 1 0 2 1\n2\n0\n1\n6 2 2\n");
        fine("aag 3 0 1 0 1\n4 6\n6 4 5\n");
    }

    private static void rounds() {
        fault("aag 3 1 0 1 2\n2\n6\n6 4 2\n4 6 2\n", 18);
        fault("aag 1 0 0 0 1\n2 2 2\n", 14);
        fault("aag 1 0 0 0 1\n2 0 3\n", 14);
        fault("aag 1 0 0 0 1\n2 3 0\n", 14);
        fault("aag 2 0 0 0 2\n2 4 0\n4 0 5\n", 20);
        fault("aag 3 0 0 0 3\n2 4 0\n4 0 7\n6 1 5\n", 20);
        fault("aag 3 0 0 0 3\n2 4 0\n4 0 7\n6 1 3\n", 14);
        fault("aag 99 0 0 0 2\n196 0 1\n198 198 0\n", 23);
        fault("aag 99 0 0 0 2\n196 197 1\n198 1 0\n", 15);
        fine("aag 3 0 1 0 2\n2 6\n4 6 2\n6 2 3\n");
        fine("aag 3 0 0 0 3\n2 4 6\n4 6 6\n6 0 1\n");
    }

    private static void packedTexts() {
        String one = "aig 2 1 0 1 1\n4\n";
        fine(one + "\2\1");
        fine(one + "\1\3");
        fine(one + "\1\0");
        fine(one + "\4\0");
        fine(one + "\2\2");
        fine(one + "\2\1c\n");
        fault(one, 16);
        fault(one + "\2", 17);
        fault(one + "\0", 16);
        fault(one + "\5", 16);
        fault(one + "\2\3", 17);
        fault(one + "\4\1", 17);
        fault(one + "\u0080", 17);
        fault(one + "\u0080\0", 17);
        fault(one + "\u0080\u0080", 17);
        fault(one + "\u0082\0\1", 17);
        fault(one + "\u0080\1", 16);
        fault(one + "\2\u0080", 18);
        fault(one + "\2\u0080\0", 18);
        fault(one + "\2\u0080\u00ff", 18);
        fault(one + "\2\u00ff\177", 17);
        fault(one + "\2\1x", 18);
        fault(one + "\2\1\n", 18);
        fault("aig 2 1 0 1 1\n6\n", 14);
        fault("aig 2 1 0 1 1\n5", 15);
        fault("aig 2 1 0 1 1\n5 ", 15);
        fault("aig 1 0 0 0 1\n\3\0", 14);
        fault("aig 1 0 0 0 1\n\u0080\2", 14);
        fine("aig 1 0 0 0 1\n\2\0");
        fine("aig 1 0 0 0 1\n\1\1");
        fault("aig 1 0 1 0 0\n4\n", 14);
        fault("aig 1 0 1 0 0\n3 2\n", 16);
        fault("aig 1 0 1 0 0\n3  ", 16);
        fault("aig 1 0 1 0 0\n2 3\n", 16);
        fine("aig 1 0 1 0 0\n3 1\n");
        fine("aig 1 0 1 0 0\n2\n");
        fine("aig 8 8 0 0 0\n");
        fine("aig 8 8 0 0 0\nc");
    }

    /** The last gate of the largest design has the literal 152, so its differences may need two bytes. */
    private static void longDifferences() {
        StringBuilder most = new StringBuilder("aig 76 8 8 0 60\n");
        for (int k = 0; k < 8; k++) {
            most.append("0\n");
        }
        for (int k = 0; k < 59; k++) {
            most.append("\1\0");
        }
        int size = most.length();
        fine(most + "\u0098\1\0");
        fault(most + "\u0099\1\0", size);
        fine(most + "\1\u0097\1");
        fault(most + "\1\u0098\1", size + 1);
        fine(most + "\u0080\1\0");
        fault(most + "\u0081\2\0", size);
        fault(most + "\1\u0081\2", size + 1);
        fault(most + "\u0080", size + 1);
        fault(most + "\u0080\1", size + 2);
    }

    public static void main(String[] args) {
        beginnings();
        numbers();
        sums();
        plainLines();
        plainLatches();
        plainGates();
        undefinedValues();
        rounds();
        packedTexts();
        longDifferences();
        Desk.end();
    }
}
