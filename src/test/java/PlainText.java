import java.util.ArrayList;
import java.util.List;
import java.util.regex.Matcher;
import java.util.regex.Pattern;

/** What the document says of texts and tables, told by patterns, to compare with. */
final class PlainText {
    private static final String ENTRY = "(?:[0-3?]|\\{(?=[0-3])0?1?2?3?\\})";
    /** For each number of characters what a table is. */
    private static final Pattern[] TABLES = new Pattern[17];

    static {
        for (int characters = 1; characters <= 16; characters++) {
            TABLES[characters] = Pattern.compile(table(characters));
        }
    }

    private PlainText() {
    }

    private static String table(int characters) {
        String rows = "";
        for (char letter = 'g'; letter >= 'a'; letter--) {
            rows = letter + " " + ENTRY + "{" + characters + "};" + (rows.isEmpty() ? "" : "(?:" + rows + ")?");
        }
        return rows;
    }

    static boolean isTable(String text) {
        for (int characters = 1; characters <= 16; characters++) {
            if (TABLES[characters].matcher(text).matches()) {
                return true;
            }
        }
        return false;
    }

    /** How far the text goes that still can become a table. */
    static int place(String text) {
        int size = 0;
        while (size < text.length() && canStand(text.substring(0, size + 1))) {
            size++;
        }
        return size;
    }

    private static boolean canStand(String begun) {
        for (int characters = 1; characters <= 16; characters++) {
            Matcher matcher = TABLES[characters].matcher(begun);
            if (matcher.matches() || matcher.hitEnd()) {
                return true;
            }
        }
        return false;
    }

    /** The sets of states of a text that is a table, row by row. */
    static int[][] sets(String text) {
        String[] rows = text.split(";");
        int[][] sets = new int[rows.length][];
        for (int kind = 0; kind < rows.length; kind++) {
            List<Integer> row = new ArrayList<>();
            Matcher entry = Pattern.compile(ENTRY).matcher(rows[kind].substring(2));
            while (entry.find()) {
                row.add(set(entry.group()));
            }
            sets[kind] = row.stream().mapToInt(Integer::intValue).toArray();
        }
        return sets;
    }

    private static int set(String entry) {
        int set = 0;
        for (int state = 0; state < 4; state++) {
            boolean has = entry.equals("?") || entry.indexOf('0' + state) >= 0;
            set |= has ? 1 << state : 0;
        }
        return set;
    }
}
