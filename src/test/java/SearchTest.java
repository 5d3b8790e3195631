/** Promises 9, 10 and 11: the search and what it finds. */
public final class SearchTest {
    public static void main(String[] args) {
        tooFewKinds();
        oneTree();
        severalTrees();
        allTrees();
        Check.end();
    }

    private static void tooFewKinds() {
        for (String text : new String[] {"a 0;", "a 0;b 1;"}) {
            ShortTrees x = Check.of(text);
            Check.dueThrow("search() of " + text, IllegalStateException.class, () -> x.search());
            Check.due("found() of " + text, x.found(), 0);
            Check.dueThrow("best(0) of " + text, IndexOutOfBoundsException.class, () -> x.best(0));
        }
    }

    private static void oneTree() {
        ShortTrees x = Check.of("a 0;b 1;c 2;");
        Check.due("found() before search()", x.found(), 0);
        Check.due("search() of three", x.search(), 2);
        Check.due("found() of three", x.found(), 1);
        Check.due("best(0) of three", x.best(0), 0);
        for (int i : new int[] {1, -1, Integer.MIN_VALUE, Integer.MAX_VALUE}) {
            Check.dueThrow("best(" + i + ") of three", IndexOutOfBoundsException.class, () -> x.best(i));
        }
    }

    private static void severalTrees() {
        ShortTrees x = Check.of("a 00;b 01;c 11;d 10;");
        Check.due("search()", x.search(), 3);
        Check.due("found()", x.found(), 2);
        Check.due("best(0)", x.best(0), 1);
        Check.due("best(1)", x.best(1), 2);
        Check.dueThrow("best(2)", IndexOutOfBoundsException.class, () -> x.best(2));
        Check.due("search() again", x.search(), 3);
        Check.due("found() again", x.found(), 2);
        x.weigh(1, 2);
        Check.due("found() after weigh()", x.found(), 0);
        Check.dueThrow("best(0) after weigh()", IndexOutOfBoundsException.class, () -> x.best(0));
        Check.due("search() weighed", x.search(), 4);
        Check.due("found() weighed", x.found(), 1);
        Check.due("best(0) weighed", x.best(0), 2);
    }

    private static void allTrees() {
        ShortTrees x = Check.of("a ?;b ?;c ?;d ?;e ?;f ?;g ?;");
        Check.due("search() without changes", x.search(), 0);
        Check.due("found() without changes", x.found(), 945);
        for (int i = 0; i < 400; i++) {
            Check.due("best(" + i + ")", x.best(i), i);
        }
        Check.due("best(944)", x.best(944), 944);
        Check.dueThrow("best(945)", IndexOutOfBoundsException.class, () -> x.best(945));
        // Of 945 trees, 105 have a given pair together.
        Check.due("share(96)", x.share(96), 105.0f / 945.0f);
        Check.due("common(0.5)", Check.common(x, 0.5f), "(a,b,c,d,e,f,g);");
    }
}
