/** Promises 3 and 4: the text becomes the table, and its states. */
public final class TableTest {
    private static final String SIXTEEN = "0123012301230123";

    public static void main(String[] args) {
        wholeTables();
        faults();
        faultChangesNothing();
        tableForgets();
        tablesInTurn();
        states();
        Check.end();
    }

    private static void wholeTables() {
        reads("a 0;", 1);
        reads("a ?;b {0};", 2);
        reads("a 0{01};b {13}2;c ?{0123};", 3);
        reads("a 0;b 1;c 2;d 3;e ?;f 0;g 1;", 7);
        reads("a " + SIXTEEN + ";", 1);
        reads("a " + SIXTEEN + ";b ????????????????;", 2);
    }

    private static void faults() {
        reads("", -100);
        reads("b 0;", -100);
        reads("A 0;", -100);
        reads(" a 0;", -100);
        reads("a", -101);
        reads("a0;", -101);
        reads("a ", -102);
        reads("a ;", -102);
        reads("a  0;", -102);
        reads("a 4;", -102);
        reads("a /;", -102);
        reads("a };", -102);
        reads("a 0", -103);
        reads("a 0 ;", -103);
        reads("a 0}", -103);
        reads("a {", -103);
        reads("a {};", -103);
        reads("a {?};", -103);
        reads("a {{0}};", -103);
        reads("a {4};", -103);
        reads("a {0", -104);
        reads("a {0;", -104);
        reads("a {00};", -104);
        reads("a {10};", -104);
        reads("a {3?};", -104);
        reads("a {0,1};", -104);
        reads("a {021};", -105);
        reads("a {0123", -107);
        reads("a {01233};", -107);
        reads("a 0;a 0;", -104);
        reads("a 0;c 0;", -104);
        reads("a 0; b 0;", -104);
        reads("a 0;;", -104);
        reads("a 0;b", -105);
        reads("a 0;b 0", -107);
        reads("a 0;b 00;", -107);
        reads("a 00;b 0;", -108);
        reads("a 00;b 00", -109);
        reads("a 00;b 0?0;", -109);
        reads("a " + SIXTEEN + "0;", -118);
        reads("a " + SIXTEEN, -118);
        reads("a " + SIXTEEN + ";b " + SIXTEEN + "?;", -137);
        reads("a 0;b 1;c 2;d 3;e ?;f 0;g 1;h 0;", -128);
        reads("a 0;b 1;c 2;d 3;e ?;f 0;g 1;a 0;", -128);
    }

    private static void reads(String text, int want) {
        ShortTrees x = new ShortTrees();
        Check.type(x, text);
        Check.due("table() of \"" + text + "\"", x.table(), want);
        Check.due("table() after \"" + text + "\"", x.table(), -100);
    }

    private static void faultChangesNothing() {
        ShortTrees x = Check.of("a 01;b 01;c 10;d 1{03};");
        x.weigh(1, 7);
        x.search();
        int found = x.found();
        String best = Check.write(x, x.best(0));
        Check.due("a fault in a later row", Check.table(x, "a 222;b 222;c 22"), -116);
        Check.due("trees() after a fault", x.trees(), 3);
        Check.due("states(3, 1) after a fault", x.states(3, 1), 9);
        Check.dueThrow("states(0, 2) after a fault", IndexOutOfBoundsException.class, () -> x.states(0, 2));
        Check.due("found() after a fault", x.found(), found);
        Check.due("written() after a fault", Check.written(x, best.length()), best);
        Check.due("weigh(1, 2) after a fault", x.weigh(1, 2), 7);
    }

    private static void tableForgets() {
        ShortTrees x = Check.of("a 0;b 0;c 1;d 1;");
        x.weigh(0, 5);
        x.search();
        String best = Check.write(x, x.best(0));
        Check.due("the next table", Check.table(x, "a 0{23};b 1?;c 23;"), 3);
        Check.due("found() after table()", x.found(), 0);
        Check.dueThrow("best(0) after table()", IndexOutOfBoundsException.class, () -> x.best(0));
        Check.dueThrow("share(6) after table()", IllegalStateException.class, () -> x.share(6));
        Check.due("written() after table()", Check.written(x, best.length()), best);
        Check.due("the weight after table()", x.weigh(0, 3), 1);
        Check.due("states(0, 1)", x.states(0, 1), 12);
        Check.due("the same table again", Check.table(x, "a 0;b 1;"), 2);
        Check.due("the weight after table() again", x.weigh(0, 3), 1);
        Check.due("trees() of two kinds", x.trees(), 0);
        Check.dueThrow("search() of two kinds", IllegalStateException.class, () -> x.search());
    }

    /** Nothing of an earlier table, whole or at fault, is left in a later one. */
    private static void tablesInTurn() {
        ShortTrees x = new ShortTrees();
        String[] texts = {"a ??;b ??;c ??;", "a 3333;b 3333;", "a 0;b 1;c 2;", "a ??;b ??;c ??", "a 2;b 1;c 0;", "a 1;"};
        int[] answers = {3, 2, 3, -114, 3, 1};
        int[] ofKindA = {15, 8, 1, 1, 4, 2};
        int[] characters = {2, 4, 1, 1, 1, 1};
        for (int i = 0; i < texts.length; i++) {
            Check.due("table() of " + texts[i] + " in turn", Check.table(x, texts[i]), answers[i]);
            Check.due("states(0, 0) of " + texts[i] + " in turn", x.states(0, 0), ofKindA[i]);
            int past = characters[i];
            Check.dueThrow("states(0, " + past + ") of " + texts[i] + " in turn", IndexOutOfBoundsException.class,
                    () -> x.states(0, past));
        }
        Check.dueThrow("states(1, 0) in turn", IndexOutOfBoundsException.class, () -> x.states(1, 0));
    }

    private static void states() {
        ShortTrees x = Check.of("a 0123?{0}{1}{2}{3}{01}{13}{012}{0123}{23}{123}?;"
                + "b ?{123}{23}{0123}{012}{13}{01}{3}{2}{1}{0}?3210;");
        int[] first = {1, 2, 4, 8, 15, 1, 2, 4, 8, 3, 10, 7, 15, 12, 14, 15};
        int[] second = {15, 14, 12, 15, 7, 10, 3, 8, 4, 2, 1, 15, 8, 4, 2, 1};
        for (int character = 0; character < 16; character++) {
            Check.due("states(0, " + character + ")", x.states(0, character), first[character]);
            Check.due("states(1, " + character + ")", x.states(1, character), second[character]);
        }
        int[][] none = {{-1, 0}, {2, 0}, {0, -1}, {0, 16}, {7, 0}, {2, 16},
            {Integer.MIN_VALUE, 0}, {Integer.MAX_VALUE, 0}, {0, Integer.MIN_VALUE}, {0, Integer.MAX_VALUE}};
        for (int[] at : none) {
            Check.dueThrow("states(" + at[0] + ", " + at[1] + ")", IndexOutOfBoundsException.class,
                    () -> x.states(at[0], at[1]));
        }
        ShortTrees small = Check.of("a 01;");
        Check.dueThrow("states(0, 2) of two characters", IndexOutOfBoundsException.class, () -> small.states(0, 2));
        Check.dueThrow("states(1, 0) of one kind", IndexOutOfBoundsException.class, () -> small.states(1, 0));
    }
}
