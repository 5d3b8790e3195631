/** The edges of promises 1 and 2, and of how long a text may be. */
public final class TypeEdgesTest {
    /** Nine entries in 30 signs: with a letter and a blank they are 32. */
    private static final String THIRTY = "{0123}{0123}{0123}{012}{0}0123";

    public static void main(String[] args) {
        newObjectHasNoTable();
        newObjectHasAnEmptyText();
        countsFromOneToFull();
        refusesWhenFull();
        isEmptyAfterTheTable();
        isEmptyAfterAFault();
        leavesNothingOfALongerText();
        objectsAreApart();
        Check.end();
    }

    private static void newObjectHasNoTable() {
        Check.says("No table");
        ShortTrees x = new ShortTrees();
        Check.due("trees()", x.trees(), 0);
        Check.due("found()", x.found(), 0);
        Check.due("written(0)", x.written(0), (char) 0);
        for (int i : new int[] {-1, 0, 1, 6, 7, 15, 16}) {
            Check.dueThrow("states(" + i + ", 0)", IndexOutOfBoundsException.class, () -> x.states(i, 0));
            Check.dueThrow("states(0, " + i + ")", IndexOutOfBoundsException.class, () -> x.states(0, i));
            Check.dueThrow("weigh(" + i + ", 1)", IndexOutOfBoundsException.class, () -> x.weigh(i, 1));
            Check.dueThrow("changes(" + i + ", 0)", IndexOutOfBoundsException.class, () -> x.changes(i, 0));
            Check.dueThrow("length(" + i + ")", IndexOutOfBoundsException.class, () -> x.length(i));
            Check.dueThrow("best(" + i + ")", IndexOutOfBoundsException.class, () -> x.best(i));
            Check.dueThrow("write(" + i + ")", IndexOutOfBoundsException.class, () -> x.write(i));
        }
        Check.dueThrow("search()", IllegalStateException.class, () -> x.search());
    }

    private static void newObjectHasAnEmptyText() {
        Check.says("an empty text");
        Check.due("type('a')", new ShortTrees().type('a'), 1);
        Check.due("table()", new ShortTrees().table(), -100);
    }

    private static void countsFromOneToFull() {
        Check.says("How many the text has.");
        ShortTrees x = new ShortTrees();
        for (int i = 1; i <= 160; i++) {
            Check.due("type, the " + i + "th", x.type((char) (i * 409)), i);
        }
    }

    private static void refusesWhenFull() {
        Check.says("Throws IllegalStateException when it has 160.");
        ShortTrees x = new ShortTrees();
        Check.type(x, Samples.full().substring(0, 159));
        Check.due("type, the 160th", x.type(';'), 160);
        for (int i = 0; i < 3; i++) {
            Check.dueThrow("type, the 161st", IllegalStateException.class, () -> x.type('f'));
        }
        Check.due("table() of 160", x.table(), 5);
        Check.due("states(4, 8)", x.states(4, 8), 1);
    }

    private static void isEmptyAfterTheTable() {
        Check.says("table() empties the text.");
        ShortTrees x = new ShortTrees();
        Check.due("table()", Check.table(x, "a 0;b 1;c 2;"), 3);
        Check.due("table() again", x.table(), -100);
        Check.due("trees() of the table before", x.trees(), 1);
        Check.due("type", x.type('a'), 1);

        ShortTrees full = new ShortTrees();
        Check.due("table() of a full text", Check.table(full, Samples.full()), 5);
        for (int i = 1; i <= 160; i++) {
            Check.due("type after a full text, the " + i + "th", full.type('a'), i);
        }
        Check.dueThrow("type, the 161st", IllegalStateException.class, () -> full.type('a'));
    }

    private static void isEmptyAfterAFault() {
        Check.says("table() empties the text.");
        ShortTrees x = new ShortTrees();
        Check.due("table() at fault", Check.table(x, "a 0;b 1;c"), -109);
        Check.due("table() again", x.table(), -100);
        Check.due("type", x.type('a'), 1);

        ShortTrees full = new ShortTrees();
        Check.due("table() of a full text at its last place",
                Check.table(full, Samples.full().substring(0, 159) + "0"), -259);
        Check.due("type after it", full.type('a'), 1);
        Check.due("table() after it", full.table(), -101);
        Check.due("table() of a full text that wants more", Check.table(full, wantingMore()), -260);
        Check.due("type after that", full.type('a'), 1);
    }

    /** 160 signs of which the last is the last entry's: only the ; is wanting. */
    private static String wantingMore() {
        return Samples.alike(4, "{0123}{0123}{0123}{0123}01230") + "e " + THIRTY;
    }

    private static void leavesNothingOfALongerText() {
        Check.says("table() empties the text.");
        ShortTrees x = new ShortTrees();
        Check.due("table()", Check.table(x, "a 0;b 1;c 2;"), 3);
        Check.due("table() of a shorter text", Check.table(x, "a 0;"), 1);
        Check.due("table() of a shorter text at fault", Check.table(x, "a 0;b 1"), -107);
        Check.due("table() of the shortest", Check.table(x, "a"), -101);
    }

    private static void objectsAreApart() {
        Check.says("No table, an empty text.");
        ShortTrees one = Check.of("a 0;b 1;c 2;");
        Check.type(one, "a 0");
        one.search();
        one.write(0);
        ShortTrees other = new ShortTrees();
        Check.due("trees() of another", other.trees(), 0);
        Check.due("found() of another", other.found(), 0);
        Check.due("written(0) of another", other.written(0), (char) 0);
        Check.due("type of another", other.type('a'), 1);
        Check.due("type of the one", one.type(';'), 4);
    }
}
