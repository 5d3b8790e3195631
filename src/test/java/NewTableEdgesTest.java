/** The edges of promises 3 and 4: what a new table, or one at fault, does to what was there. */
public final class NewTableEdgesTest {
    private static final String WIDE = Samples.inTurn(7, 16);

    public static void main(String[] args) {
        allWeightsAreOne();
        nothingIsFound();
        faultKeepsTheTable();
        faultAnswers();
        noSuchKind();
        noSuchCharacter();
        noSuchKindNorCharacter();
        noneOfAnEarlierTable();
        Check.end();
    }

    private static void allWeightsAreOne() {
        Check.says("all weights are 1");
        ShortTrees x = Check.of(WIDE);
        for (int character = 0; character < 16; character++) {
            Check.due("weigh(" + character + ", 9) at first", x.weigh(character, 9), 1);
        }
        Check.due("table() of the same text", Check.table(x, WIDE), 7);
        // Tree 944 puts the kinds in one after the other, and every character needs five changes there.
        Check.due("length(944)", x.length(944), 16 * 5);
        for (int character = 0; character < 16; character++) {
            Check.due("weigh(" + character + ", 2) after table()", x.weigh(character, 2), 1);
        }
        // Of two tables in turn each could keep the weights of the one before the last.
        Check.table(x, "a 0;");
        Check.due("weigh(0, 8) of a small table", x.weigh(0, 8), 1);
        Check.table(x, "a 00;");
        Check.due("weigh(0, 7) of the next", x.weigh(0, 7), 1);
        Check.due("weigh(1, 7) of the next", x.weigh(1, 7), 1);
        Check.table(x, "a 00;");
        Check.due("weigh(0, 1) of the one after", x.weigh(0, 1), 1);
        Check.due("weigh(1, 1) of the one after", x.weigh(1, 1), 1);
    }

    private static void nothingIsFound() {
        Check.says("nothing is found");
        String[] next = {"a 0;", "a 0;b 0;", "a 0;b 0;c 1;", "a 0;b 0;c 1;d 1;", WIDE};
        for (String text : next) {
            ShortTrees x = Check.of("a 0;b 0;c 1;d 1;");
            Check.due("search()", x.search(), 1);
            Check.due("found() before", x.found(), 1);
            Check.table(x, text);
            Check.due("found() after table() of " + text, x.found(), 0);
            Check.dueThrow("best(0) after " + text, IndexOutOfBoundsException.class, () -> x.best(0));
            Check.dueThrow("share(12) after " + text, IllegalStateException.class, () -> x.share(12));
            Check.dueThrow("common(0.5) after " + text, IllegalStateException.class, () -> x.common(0.5f));
        }
    }

    private static void faultKeepsTheTable() {
        Check.says("(nothing but the text changes then)");
        for (String fault : new String[] {"", "a", "a 0;b", "b 0;", Samples.alike(7, "?") + "h"}) {
            ShortTrees x = Check.of("a 0?;b 01;c 10;d 1{03};");
            x.weigh(1, 7);
            int least = x.search();
            int found = x.found();
            int best = x.best(found - 1);
            float part = x.share(12);
            String writing = Check.write(x, 2);
            Check.due("table() of \"" + fault + "\" is at fault", Check.table(x, fault) <= -100, true);
            Check.due("trees()", x.trees(), 3);
            Check.due("states(0, 1)", x.states(0, 1), 15);
            Check.due("states(3, 1)", x.states(3, 1), 9);
            Check.dueThrow("states(4, 0)", IndexOutOfBoundsException.class, () -> x.states(4, 0));
            Check.dueThrow("states(0, 2)", IndexOutOfBoundsException.class, () -> x.states(0, 2));
            Check.due("found()", x.found(), found);
            Check.due("best(found() - 1)", x.best(found - 1), best);
            Check.due("length(best)", x.length(best), least);
            Check.due("share(12)", x.share(12), part);
            Check.due("written", Check.written(x, writing.length()), writing);
            Check.due("weigh(1, 1)", x.weigh(1, 1), 7);
        }
    }

    private static void faultAnswers() {
        Check.says("-100 - place when it is at fault");
        ShortTrees x = Check.of("a 0;b 0;c 0;");
        Check.due("table() at place 0", x.table(), -100);
        Check.due("table() at place 0, of one sign", Check.table(x, "b"), -100);
        Check.due("table() at place 1", Check.table(x, "a"), -101);
        String last = Samples.full().substring(0, 159);
        Check.due("table() at place 159 of 159", Check.table(x, last), -259);
        Check.due("table() at place 159 of 160", Check.table(x, last + "?"), -259);
        Check.due("trees() after all that", x.trees(), 1);
    }

    private static void noSuchKind() {
        Check.says("Throws IndexOutOfBoundsException when there is no such kind ..");
        for (int kinds = 1; kinds <= 7; kinds++) {
            ShortTrees x = Check.of(Samples.inTurn(kinds, 16));
            int past = kinds;
            Check.due("states(0, 15) of " + kinds, x.states(0, 15), 1);
            Check.due("states(" + (kinds - 1) + ", 0) of " + kinds, x.states(kinds - 1, 0), 1 << (kinds - 1) % 4);
            Check.dueThrow("states(" + past + ", 0) of " + kinds, IndexOutOfBoundsException.class,
                    () -> x.states(past, 0));
            Check.dueThrow("states(-1, 0) of " + kinds, IndexOutOfBoundsException.class, () -> x.states(-1, 0));
            for (int kind : Samples.FAR) {
                Check.dueThrow("states(" + kind + ", 0)", IndexOutOfBoundsException.class, () -> x.states(kind, 0));
            }
        }
    }

    private static void noSuchCharacter() {
        Check.says("Throws IndexOutOfBoundsException when there is no such .. character.");
        for (int characters = 1; characters <= 16; characters++) {
            ShortTrees x = Check.of(Samples.inTurn(7, characters));
            int past = characters;
            Check.due("states(6, 0) of " + past, x.states(6, 0), 4);
            Check.due("states(6, " + (past - 1) + ") of " + past, x.states(6, past - 1), 4);
            Check.dueThrow("states(6, " + past + ") of " + past, IndexOutOfBoundsException.class,
                    () -> x.states(6, past));
            Check.dueThrow("states(6, -1) of " + past, IndexOutOfBoundsException.class, () -> x.states(6, -1));
            for (int character : Samples.FAR) {
                Check.dueThrow("states(6, " + character + ")", IndexOutOfBoundsException.class,
                        () -> x.states(6, character));
            }
        }
    }

    private static void noSuchKindNorCharacter() {
        Check.says("Throws IndexOutOfBoundsException when there is no such kind or character.");
        ShortTrees x = Check.of("a 01;b 23;c ??;");
        int[][] none = {{-1, -1}, {-1, 2}, {3, -1}, {3, 2}, {-1, 1}, {3, 1}, {2, -1}, {2, 2}};
        for (int[] at : none) {
            Check.dueThrow("states(" + at[0] + ", " + at[1] + ")", IndexOutOfBoundsException.class,
                    () -> x.states(at[0], at[1]));
        }
        Check.due("states(2, 1)", x.states(2, 1), 15);
    }

    private static void noneOfAnEarlierTable() {
        Check.says("The text becomes the table");
        ShortTrees x = Check.of(Samples.alike(7, "????????????????"));
        Check.due("table() of a smaller text", Check.table(x, "a 01;b 23;"), 2);
        Check.due("states(1, 1)", x.states(1, 1), 8);
        Check.dueThrow("states(2, 0)", IndexOutOfBoundsException.class, () -> x.states(2, 0));
        Check.dueThrow("states(0, 2)", IndexOutOfBoundsException.class, () -> x.states(0, 2));
        Check.dueThrow("weigh(2, 1)", IndexOutOfBoundsException.class, () -> x.weigh(2, 1));
        Check.due("trees()", x.trees(), 0);
        Check.due("table() of three kinds", Check.table(x, "a 0;b 1;c 2;"), 3);
        Check.due("length(0)", x.length(0), 2);
        Check.dueThrow("length(1)", IndexOutOfBoundsException.class, () -> x.length(1));
    }
}
