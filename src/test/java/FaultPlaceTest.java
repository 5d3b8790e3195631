import java.util.Random;
import java.util.regex.Matcher;
import java.util.regex.Pattern;

/** Where a text is at fault: many texts with signs changed, put in and left out, held against patterns. */
public final class FaultPlaceTest {
    private static final Random RANDOM = new Random(7);
    private static final String ENTRY = "(?:[0-3?]|\\{(?=[0-3])0?1?2?3?\\})";
    private static final String SIGNS = "abcdefgh 01234?{};";
    /** For each number of characters what a table is. */
    private static final Pattern[] TABLES = new Pattern[17];

    public static void main(String[] args) {
        Check.says("The text is AT FAULT at the place of the first character that can't stand there");
        for (int characters = 1; characters <= 16; characters++) {
            TABLES[characters] = Pattern.compile(table(characters));
        }
        for (int run = 0; run < 4000; run++) {
            StringBuilder text = sample();
            int spoils = RANDOM.nextInt(4);
            for (int i = 0; i < spoils; i++) {
                spoil(text);
            }
            text.setLength(Math.min(160, text.length()));
            check(text.toString());
        }
        Check.end();
    }

    private static String table(int characters) {
        String rows = "";
        for (char letter = 'g'; letter >= 'a'; letter--) {
            rows = letter + " " + ENTRY + "{" + characters + "};" + (rows.isEmpty() ? "" : "(?:" + rows + ")?");
        }
        return rows;
    }

    private static StringBuilder sample() {
        int kinds = 1 + RANDOM.nextInt(7);
        int characters = 1 + RANDOM.nextInt(RANDOM.nextInt(4) == 0 ? 16 : 4);
        StringBuilder text = new StringBuilder();
        for (int kind = 0; kind < kinds; kind++) {
            StringBuilder entries = new StringBuilder();
            for (int i = 0; i < characters; i++) {
                entries.append(entry());
            }
            text.append(Samples.row(kind, entries.toString()));
        }
        return text;
    }

    private static String entry() {
        int set = 1 + RANDOM.nextInt(15);
        if (RANDOM.nextInt(5) > 0) {
            return "" + "0123?".charAt(RANDOM.nextInt(5));
        }
        StringBuilder entry = new StringBuilder("{");
        for (int state = 0; state < 4; state++) {
            entry.append((set >> state & 1) != 0 ? "" + state : "");
        }
        return entry.append('}').toString();
    }

    private static void spoil(StringBuilder text) {
        int at = RANDOM.nextInt(text.length());
        char sign = SIGNS.charAt(RANDOM.nextInt(SIGNS.length()));
        switch (RANDOM.nextInt(4)) {
            case 0 -> text.setCharAt(at, sign);
            case 1 -> text.insert(at, sign);
            case 2 -> text.deleteCharAt(at);
            default -> text.setLength(at + 1);
        }
        if (text.length() == 0) {
            text.append(sign);
        }
    }

    private static void check(String text) {
        ShortTrees x = new ShortTrees();
        Check.type(x, text);
        int rows = (int) text.chars().filter(c -> c == ';').count();
        Check.due("table() of \"" + text + "\"", x.table(), isTable(text) ? rows : -100 - place(text));
    }

    private static boolean isTable(String text) {
        for (int characters = 1; characters <= 16; characters++) {
            if (TABLES[characters].matcher(text).matches()) {
                return true;
            }
        }
        return false;
    }

    /** How far the text goes that still can become a table. */
    private static int place(String text) {
        int size = 0;
        while (size < text.length() && canStand(text.substring(0, size + 1))) {
            size++;
        }
        return size;
    }

    private static boolean canStand(String begun) {
        for (int characters = 1; characters <= 16; characters++) {
            Matcher matcher = TABLES[characters].matcher(begun);
            if (matcher.matches() || matcher.hitEnd()) {
                return true;
            }
        }
        return false;
    }
}
