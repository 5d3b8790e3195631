import java.util.Random;

/** Texts of tables, and texts that nearly are: the same ones in every run of a test. */
final class RandomTexts {
    private static final String SIGNS = "abcdefgh 01234?{};";

    private final Random random;

    RandomTexts(Random random) {
        this.random = random;
    }

    /** A table, but for its length: that may be more than a text can have. */
    String table() {
        int kinds = 1 + random.nextInt(7);
        int characters = 1 + random.nextInt(random.nextInt(4) == 0 ? 16 : 4);
        return table(kinds, characters);
    }

    String table(int kinds, int characters) {
        StringBuilder text = new StringBuilder();
        for (int kind = 0; kind < kinds; kind++) {
            StringBuilder entries = new StringBuilder();
            for (int i = 0; i < characters; i++) {
                entries.append(entry());
            }
            text.append(Samples.row(kind, entries.toString()));
        }
        return text.toString();
    }

    private String entry() {
        int set = 1 + random.nextInt(15);
        if (random.nextInt(5) > 0) {
            return "" + "0123?".charAt(random.nextInt(5));
        }
        StringBuilder entry = new StringBuilder("{");
        for (int state = 0; state < 4; state++) {
            entry.append((set >> state & 1) != 0 ? "" + state : "");
        }
        return entry.append('}').toString();
    }

    /** The text with so many signs changed, put in or left out, or cut short. */
    String spoilt(String text, int times) {
        StringBuilder signs = new StringBuilder(text);
        for (int i = 0; i < times; i++) {
            spoil(signs);
        }
        return signs.toString();
    }

    private void spoil(StringBuilder text) {
        int at = random.nextInt(text.length());
        char sign = SIGNS.charAt(random.nextInt(SIGNS.length()));
        switch (random.nextInt(4)) {
            case 0 -> text.setCharAt(at, sign);
            case 1 -> text.insert(at, sign);
            case 2 -> text.deleteCharAt(at);
            default -> text.setLength(at + 1);
        }
        if (text.length() == 0) {
            text.append(sign);
        }
    }
}
