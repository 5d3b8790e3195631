/** Promises 1 and 2: a new object, and typing. */
public final class TypeTest {
    public static void main(String[] args) {
        newObject();
        fullText();
        anyCharacter();
        Check.end();
    }

    private static void newObject() {
        ShortTrees x = new ShortTrees();
        Check.due("trees() of a new object", x.trees(), 0);
        Check.due("found() of a new object", x.found(), 0);
        Check.due("written(0) of a new object", x.written(0), (char) 0);
        Check.dueThrow("states(0, 0)", IndexOutOfBoundsException.class, () -> x.states(0, 0));
        Check.dueThrow("weigh(0, 1)", IndexOutOfBoundsException.class, () -> x.weigh(0, 1));
        Check.dueThrow("changes(0, 0)", IndexOutOfBoundsException.class, () -> x.changes(0, 0));
        Check.dueThrow("length(0)", IndexOutOfBoundsException.class, () -> x.length(0));
        Check.dueThrow("search()", IllegalStateException.class, () -> x.search());
        Check.dueThrow("best(0)", IndexOutOfBoundsException.class, () -> x.best(0));
        Check.dueThrow("split(0, 6)", IndexOutOfBoundsException.class, () -> x.split(0, 6));
        Check.dueThrow("share(6)", IllegalStateException.class, () -> x.share(6));
        Check.dueThrow("distance(0, 0)", IndexOutOfBoundsException.class, () -> x.distance(0, 0));
        Check.dueThrow("consistency(0)", IndexOutOfBoundsException.class, () -> x.consistency(0));
        Check.dueThrow("retention(0)", IndexOutOfBoundsException.class, () -> x.retention(0));
        Check.dueThrow("write(0)", IndexOutOfBoundsException.class, () -> x.write(0));
        Check.dueThrow("common(0.5)", IllegalStateException.class, () -> x.common(0.5f));
        Check.due("table() of an empty text", x.table(), -100);
        Check.due("type('a') in an empty text", x.type('a'), 1);
    }

    private static void fullText() {
        ShortTrees x = new ShortTrees();
        StringBuilder text = new StringBuilder();
        // A table that fills the text to its last place: five rows of 32.
        for (char kind = 'a'; kind <= 'e'; kind++) {
            text.append(kind).append(" {0123}{0123}{0123}{0123}01230;");
        }
        for (int i = 0; i < 160; i++) {
            Check.due("type " + i, x.type(text.charAt(i)), i + 1);
        }
        Check.dueThrow("type the 161st", IllegalStateException.class, () -> x.type('a'));
        Check.dueThrow("type the 161st again", IllegalStateException.class, () -> x.type(';'));
        Check.due("table() of a full text", x.table(), 5);
        Check.due("type after table()", x.type('a'), 1);

        for (int i = 0; i < 159; i++) {
            x.type(' ');
        }
        Check.dueThrow("type the 161st once more", IllegalStateException.class, () -> x.type('a'));
        Check.due("table() of 160 characters", x.table(), -102);
        Check.due("type after a fault", x.type('a'), 1);
    }

    private static void anyCharacter() {
        ShortTrees x = new ShortTrees();
        Check.due("type((char) 0)", x.type((char) 0), 1);
        Check.due("type((char) 65535)", x.type((char) 65535), 2);
        Check.due("table()", x.table(), -100);
        Check.type(x, "a ");
        // Its lowest eight bits are those of '0'.
        x.type((char) ('0' + 256));
        Check.due("table() with a far character", x.table(), -102);
        Check.type(x, "a 0");
        x.type((char) 0);
        Check.due("table() with a zero", x.table(), -103);
    }
}
