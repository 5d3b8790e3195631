/** The edges of promise 3, and of what a table is. */
public final class TableEdgesTest {
    private static final String SIXTEEN = "0123012301230123";

    public static void main(String[] args) {
        oneOrMoreRows();
        atMostSevenKinds();
        lettersInOrder();
        aBlank();
        oneOrMoreEntries();
        atMostSixteenEntries();
        asManyInEveryRow();
        rowsEnd();
        digitsOfStates();
        allFourStates();
        braces();
        risingDigits();
        whereMoreMustFollow();
        theFirstFromTheLeft();
        kindsAnswered();
        Check.end();
    }

    private static void reads(String text, int want) {
        ShortTrees x = new ShortTrees();
        Check.type(x, text);
        Check.due("table() of \"" + text + "\"", x.table(), want);
        Check.due("trees() of \"" + text + "\"", x.trees(), want < 0 ? 0 : Samples.TREES[want]);
    }

    private static void oneOrMoreRows() {
        Check.says("A TABLE is one or more ROWS");
        reads("", -100);
        reads("a 0;", 1);
    }

    private static void atMostSevenKinds() {
        Check.says("KINDS are 0 .. n - 1, at most seven");
        String seven = Samples.alike(7, "0");
        reads(seven, 7);
        for (String more : new String[] {"h", "h 0;", "g 0;", "a 0;", ";", " ", "0"}) {
            reads(seven + more, -128);
        }
        String wide = Samples.alike(7, SIXTEEN);
        reads(wide, 7);
        reads(wide + "h", -233);
    }

    private static void lettersInOrder() {
        Check.says("a row is the letter of its kind (the first row's a, the second's b, and so on, at most g)");
        for (int kind = 0; kind < 7; kind++) {
            String before = Samples.alike(kind, "01");
            char letter = (char) ('a' + kind);
            reads(before + letter + " 01;", kind + 1);
            for (int c : new int[] {letter - 1, letter + 1, letter - 32, letter + 256, ' ', ';', '0', 0, 65535}) {
                reads(before + (char) c + " 01;", -100 - before.length());
            }
        }
    }

    private static void aBlank() {
        Check.says("a blank");
        for (int c : new int[] {' ' - 1, ' ' + 1, ' ' + 256, 9, 10, 0, 160, '0', ';', '?', '{', 'a'}) {
            reads("a" + (char) c + "0;", -101);
            reads("a 0;b" + (char) c + "0;", -105);
        }
        reads("a  0;", -102);
        reads("a 0 ;", -103);
        reads("a 0 0;", -103);
        reads("a {0 1};", -104);
        reads("a 0; b 0;", -104);
        reads("a 0;\n", -104);
    }

    private static void oneOrMoreEntries() {
        Check.says("an ENTRY for each character (one or more ..)");
        reads("a ;", -102);
        reads("a 0;b ;", -106);
        reads("a 0;", 1);
        reads("a ?;", 1);
        reads("a {3};", 1);
    }

    private static void atMostSixteenEntries() {
        Check.says("an ENTRY for each character (.. at most 16 ..)");
        reads("a " + SIXTEEN + ";", 1);
        for (String entry : new String[] {"0", "3", "?", "{0}", "{", "}", " "}) {
            reads("a " + SIXTEEN + entry + ";", -118);
        }
        String braced = "a " + "{13}".repeat(16);
        reads(braced + ";", 1);
        reads(braced + "0;", -166);
        reads(braced + "{0};", -166);
        ShortTrees x = Check.of("a " + SIXTEEN + ";");
        Check.due("states(0, 15)", x.states(0, 15), 8);
    }

    private static void asManyInEveryRow() {
        Check.says("an ENTRY for each character (.. as many in every row)");
        for (int characters : new int[] {1, 2, 15, 16}) {
            for (int kind = 1; kind < 7; kind++) {
                String before = Samples.alike(kind, SIXTEEN.substring(0, characters));
                int first = -100 - before.length() - 2;
                reads(before + Samples.row(kind, "?".repeat(characters)), kind + 1);
                reads(before + Samples.row(kind, "?".repeat(characters - 1)), first - characters + 1);
                for (String entry : new String[] {"0", "?", "{0}"}) {
                    reads(before + Samples.row(kind, "?".repeat(characters) + entry), first - characters);
                }
            }
        }
    }

    private static void rowsEnd() {
        Check.says("and ;");
        for (int c : new int[] {';' - 1, ';' + 1, ';' + 256, ',', '.', 0, 'b', '}'}) {
            reads("a 0" + (char) c, -103);
            reads("a 0;b 0" + (char) c, -107);
            reads("a " + SIXTEEN + (char) c, -118);
        }
        reads("a 0;;", -104);
    }

    private static void digitsOfStates() {
        Check.says("An entry is a digit 0 .. 3 (that state alone)");
        for (int digit = 0; digit < 4; digit++) {
            ShortTrees x = Check.of("a " + digit + ";");
            Check.due("states(0, 0) of " + digit, x.states(0, 0), 1 << digit);
        }
        for (int c : new int[] {'0' - 1, '3' + 1, '9', '0' + 256, '3' + 256, 0, 3, 'a', '-'}) {
            reads("a " + (char) c + ";", -102);
            reads("a 0" + (char) c + ";", -103);
            reads("a {" + (char) c + "};", -103);
            reads("a {0" + (char) c + "};", -104);
        }
    }

    private static void allFourStates() {
        Check.says("? (all four)");
        Check.due("states(0, 0)", Check.of("a ?;").states(0, 0), 15);
        for (int c : new int[] {'?' - 1, '?' + 1, '?' + 256}) {
            reads("a " + (char) c + ";", -102);
        }
        reads("a {?};", -103);
        reads("a {0?};", -104);
    }

    private static void braces() {
        Check.says("or { and one or more digits 0 .. 3 .. and }");
        reads("a {};", -103);
        reads("a {;", -103);
        reads("a {{0}};", -103);
        reads("a };", -102);
        reads("a 0};", -103);
        reads("a {0}};", -105);
        for (int c : new int[] {'{' - 1, '{' + 1, '{' + 256, '('}) {
            reads("a " + (char) c + "0};", -102);
        }
        for (int c : new int[] {'}' - 1, '}' + 1, '}' + 256, ')', ';', ',', '{'}) {
            reads("a {0" + (char) c + ";", -104);
        }
        for (int set = 1; set < 16; set++) {
            StringBuilder entry = new StringBuilder("{");
            for (int state = 0; state < 4; state++) {
                entry.append((set >> state & 1) != 0 ? "" + state : "");
            }
            ShortTrees x = Check.of("a " + entry + "};");
            Check.due("states(0, 0) of " + entry + "}", x.states(0, 0), set);
        }
    }

    /** Every row of up to five digits 0 .. 4. */
    private static void risingDigits() {
        Check.says("each greater than the one before");
        int rows = 1;
        for (int size = 1; size <= 5; size++) {
            rows *= 5;
            for (int row = 0; row < rows; row++) {
                StringBuilder digits = new StringBuilder();
                for (int i = 0, rest = row; i < size; i++, rest /= 5) {
                    digits.append(rest % 5);
                }
                int rising = rising(digits);
                reads("a {" + digits + "};", rising == size ? 1 : -103 - rising);
            }
        }
    }

    /** How many of the digits are states, each greater than the one before. */
    private static int rising(CharSequence digits) {
        int last = -1;
        for (int i = 0; i < digits.length(); i++) {
            int digit = digits.charAt(i) - '0';
            if (digit <= last || digit > 3) {
                return i;
            }
            last = digit;
        }
        return digits.length();
    }

    private static void whereMoreMustFollow() {
        Check.says("or at its length if more must follow (after a row that is whole nothing must)");
        String text = "a 0?{0}{123};b {0123}1??;c 0000;d 1{01}{23}3;e ????;f 0123;g {0}{1}{2}{3};";
        int rows = 0;
        for (int size = 0; size <= text.length(); size++) {
            boolean whole = size > 0 && text.charAt(size - 1) == ';';
            rows += whole ? 1 : 0;
            reads(text.substring(0, size), whole ? rows : -100 - size);
        }
        Check.due("rows", rows, 7);
    }

    private static void theFirstFromTheLeft() {
        Check.says("AT FAULT at the place of the first character that can't stand there, gone through from the left");
        reads("x y", -100);
        reads("a 4;c 4", -102);
        reads("a 00;b 0;d", -108);
        reads("a 0;b 00;b", -107);
        reads("a {10};b {", -104);
        reads("a 0;b {3210", -108);
        // The number of entries is held against the row before, not against a later one.
        reads("a 0;b 00;c 00;", -107);
        reads("a 00;b 00;c 0;", -113);
    }

    private static void kindsAnswered() {
        Check.says("How many kinds");
        for (int kinds = 1; kinds <= 7; kinds++) {
            reads(Samples.alike(kinds, "0"), kinds);
            reads(Samples.alike(kinds, SIXTEEN), kinds);
        }
    }
}
