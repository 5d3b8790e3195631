/** Promises 5 and 8: weights, and the length that they make. */
public final class WeighTest {
    public static void main(String[] args) {
        answers();
        wrongInputs();
        Check.end();
    }

    private static void answers() {
        ShortTrees x = Check.of("a 001;b 010;c 110;d 10?;");
        int[] plain = {x.changes(0, 0), x.changes(0, 1), x.changes(0, 2)};
        Check.due("length(0)", x.length(0), plain[0] + plain[1] + plain[2]);
        Check.due("weigh(0, 9)", x.weigh(0, 9), 1);
        Check.due("weigh(0, 4)", x.weigh(0, 4), 9);
        Check.due("weigh(2, 6)", x.weigh(2, 6), 1);
        Check.due("length(0) weighed", x.length(0), 4 * plain[0] + plain[1] + 6 * plain[2]);
        Check.due("changes(0, 0) weighed", x.changes(0, 0), plain[0]);
        x.search();
        Check.due("weigh(1, 1), the same weight", x.weigh(1, 1), 1);
        Check.due("found() after the same weight", x.found(), 0);
        ShortTrees one = Check.of("a 01;");
        Check.due("weigh(1, 9) of one kind", one.weigh(1, 9), 1);
        Check.due("weigh(1, 1) of one kind", one.weigh(1, 1), 9);
    }

    private static void wrongInputs() {
        ShortTrees x = Check.of("a 00;b 01;c 10;d 11;");
        x.weigh(0, 3);
        x.search();
        int found = x.found();
        for (int weight : new int[] {0, 10, -1, Integer.MIN_VALUE, Integer.MAX_VALUE}) {
            Check.dueThrow("weigh(0, " + weight + ")", IllegalArgumentException.class, () -> x.weigh(0, weight));
            Check.dueThrow("weigh(2, " + weight + ")", IndexOutOfBoundsException.class, () -> x.weigh(2, weight));
        }
        for (int character : new int[] {2, 16, -1, Integer.MIN_VALUE, Integer.MAX_VALUE}) {
            Check.dueThrow("weigh(" + character + ", 1)", IndexOutOfBoundsException.class,
                    () -> x.weigh(character, 1));
        }
        Check.due("found() after wrong weights", x.found(), found);
        Check.due("the weight after wrong weights", x.weigh(0, 1), 3);
    }
}
