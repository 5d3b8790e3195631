/** Texts of tables to ask about. */
final class Samples {
    /** How many trees there are, by the number of kinds. */
    static final int[] TREES = {0, 0, 0, 1, 3, 15, 105, 945};
    /** Numbers that are far out at either end, and some that wrap round to small ones. */
    static final int[] FAR = {Integer.MIN_VALUE, Integer.MIN_VALUE + 1, -65536, -256, -2, -1,
        1 << 16, 1 << 24, Integer.MAX_VALUE - 1, Integer.MAX_VALUE};

    private Samples() {
    }

    static String row(int kind, String entries) {
        return (char) ('a' + kind) + " " + entries + ";";
    }

    /** Every kind has the same entries. */
    static String alike(int kinds, String entries) {
        StringBuilder text = new StringBuilder();
        for (int kind = 0; kind < kinds; kind++) {
            text.append(row(kind, entries));
        }
        return text.toString();
    }

    /** Kind k has the state k % 4 alone, for every character. */
    static String inTurn(int kinds, int characters) {
        StringBuilder text = new StringBuilder();
        for (int kind = 0; kind < kinds; kind++) {
            text.append(row(kind, ("" + kind % 4).repeat(characters)));
        }
        return text.toString();
    }

    /** A table that fills the text to its last place: five rows of 32 signs, with nine characters. */
    static String full() {
        return alike(5, "{0123}{0123}{0123}{0123}01230");
    }
}
