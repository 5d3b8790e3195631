/** The edges of promises 9, 10 and 11. */
public final class SearchEdgesTest {
    private static final Class<IndexOutOfBoundsException> INDEX = IndexOutOfBoundsException.class;

    public static void main(String[] args) {
        fewerThanThreeKinds();
        threeKinds();
        sevenKinds();
        nothingIsFoundAtFirst();
        nothingIsFoundAgain();
        oneFound();
        allFound();
        noneSuch();
        noneSuchWhenNothingIsFound();
        searchedTwice();
        Check.end();
    }

    private static void fewerThanThreeKinds() {
        Check.says("Throws IllegalStateException when there are fewer than three kinds.");
        ShortTrees none = new ShortTrees();
        Check.dueThrow("search() without a table", IllegalStateException.class, () -> none.search());
        for (int kinds = 1; kinds < 3; kinds++) {
            ShortTrees x = Check.of(Samples.inTurn(kinds, 16));
            Check.dueThrow("search() of " + kinds, IllegalStateException.class, () -> x.search());
            Check.due("found() of " + kinds, x.found(), 0);
        }
        ShortTrees x = Check.of(Samples.inTurn(7, 1));
        x.search();
        Check.table(x, Samples.inTurn(2, 1));
        Check.dueThrow("search() of two after seven", IllegalStateException.class, () -> x.search());
        Check.due("found() of two after seven", x.found(), 0);
    }

    private static void threeKinds() {
        Check.says("Finds all trees of the least length: that length.");
        ShortTrees x = Check.of("a 0;b 1;c 2;");
        Check.due("search() of three", x.search(), 2);
        Check.due("found()", x.found(), 1);
        Check.due("best(0)", x.best(0), 0);
        ShortTrees y = Check.of(Samples.alike(3, "0"));
        Check.due("search() of three that are alike", y.search(), 0);
        Check.due("found() of three that are alike", y.found(), 1);
    }

    private static void sevenKinds() {
        Check.says("Finds all trees of the least length: that length.");
        // One character for each split of the first tree, and then of the last.
        ShortTrees first = Check.of("a 0000;b 1111;c 0000;d 0001;e 0011;f 0111;g 1111;");
        Check.due("search() for the first tree", first.search(), 4);
        Check.due("found()", first.found(), 1);
        Check.due("best(0)", first.best(0), 0);
        ShortTrees last = Check.of("a 0000;b 1111;c 1111;d 0111;e 0011;f 0001;g 0000;");
        Check.due("search() for the last tree", last.search(), 4);
        Check.due("found()", last.found(), 1);
        Check.due("best(0)", last.best(0), 944);
    }

    private static void nothingIsFoundAtFirst() {
        Check.says("0 when nothing is found.");
        Check.due("found() without a table", new ShortTrees().found(), 0);
        for (int kinds = 1; kinds <= 7; kinds++) {
            Check.due("found() of " + kinds, Check.of(Samples.inTurn(kinds, 1)).found(), 0);
        }
    }

    private static void nothingIsFoundAgain() {
        Check.says("0 when nothing is found.");
        ShortTrees x = Check.of("a 0;b 0;c 1;d 1;");
        x.search();
        Check.due("found()", x.found(), 1);
        x.weigh(0, 1);
        Check.due("found() after weigh()", x.found(), 0);
        x.search();
        Check.due("found() after search()", x.found(), 1);
        x.table();
        Check.due("found() after a table at fault", x.found(), 1);
        Check.table(x, "a 0;b 0;c 1;d 1;");
        Check.due("found() after table()", x.found(), 0);
    }

    private static void oneFound() {
        Check.says("How many were found by search()");
        ShortTrees x = Check.of("a 0;b 0;c 1;d 1;");
        Check.due("search()", x.search(), 1);
        Check.due("found()", x.found(), 1);
        Check.due("best(0)", x.best(0), 1);
    }

    private static void allFound() {
        Check.says("The number of the i-th of them, rising.");
        for (int kinds = 3; kinds <= 7; kinds++) {
            int count = Samples.TREES[kinds];
            ShortTrees x = Check.of(Samples.alike(kinds, "?"));
            x.search();
            Check.due("found() of " + kinds, x.found(), count);
            for (int i = 0; i < count; i += 1 + count / 200) {
                Check.due("best(" + i + ") of " + kinds, x.best(i), i);
            }
            Check.due("best(" + (count - 1) + ") of " + kinds, x.best(count - 1), count - 1);
            Check.dueThrow("best(" + count + ") of " + kinds, INDEX, () -> x.best(count));
            Check.dueThrow("best(-1) of " + kinds, INDEX, () -> x.best(-1));
        }
    }

    private static void noneSuch() {
        Check.says("Throws IndexOutOfBoundsException when there is none such.");
        ShortTrees x = Check.of("a 00;b 01;c 11;d 10;");
        x.search();
        Check.due("found()", x.found(), 2);
        Check.due("best(0)", x.best(0), 1);
        Check.due("best(1)", x.best(1), 2);
        Check.dueThrow("best(2)", INDEX, () -> x.best(2));
        Check.dueThrow("best(-1)", INDEX, () -> x.best(-1));
        for (int i : Samples.FAR) {
            Check.dueThrow("best(" + i + ")", INDEX, () -> x.best(i));
        }
        // Fewer are found than before: none of the earlier ones is there any more.
        x.weigh(0, 2);
        x.search();
        Check.due("found() weighed", x.found(), 1);
        Check.dueThrow("best(1) weighed", INDEX, () -> x.best(1));
    }

    private static void noneSuchWhenNothingIsFound() {
        Check.says("Throws IndexOutOfBoundsException when there is none such.");
        ShortTrees x = Check.of("a 00;b 01;c 11;d 10;");
        Check.dueThrow("best(0) before search()", INDEX, () -> x.best(0));
        x.search();
        x.weigh(0, 1);
        Check.dueThrow("best(0) after weigh()", INDEX, () -> x.best(0));
        x.search();
        Check.table(x, "a 00;b 01;c 11;d 10;");
        Check.dueThrow("best(0) after table()", INDEX, () -> x.best(0));
        Check.dueThrow("best(-1) after table()", INDEX, () -> x.best(-1));
    }

    private static void searchedTwice() {
        Check.says("How many were found by search()");
        ShortTrees x = Check.of(Samples.alike(7, "?"));
        for (int i = 0; i < 3; i++) {
            Check.due("search()", x.search(), 0);
            Check.due("found()", x.found(), 945);
            Check.due("best(944)", x.best(944), 944);
            Check.due("share(6)", x.share(6), 105.0f / 945.0f);
        }
    }
}
