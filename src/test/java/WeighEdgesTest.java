/** The edges of promise 5. */
public final class WeighEdgesTest {
    public static void main(String[] args) {
        oneAtFirst();
        everyWeight();
        wrongWeight();
        noSuchCharacter();
        bothWrong();
        nothingIsFoundThen();
        refusedKeepsTheFinds();
        Check.end();
    }

    private static void oneAtFirst() {
        Check.says("each with a WEIGHT 1 .. 9 (1 at first)");
        ShortTrees x = Check.of(Samples.inTurn(7, 16));
        for (int character = 0; character < 16; character++) {
            Check.due("weigh(" + character + ", 1)", x.weigh(character, 1), 1);
        }
    }

    private static void everyWeight() {
        Check.says("A character gets a weight .. The one that it had.");
        ShortTrees x = Check.of(Samples.inTurn(3, 16));
        for (int character : new int[] {0, 15}) {
            int before = 1;
            for (int weight : new int[] {1, 2, 3, 4, 5, 6, 7, 8, 9, 1, 9, 9}) {
                String call = "weigh(" + character + ", " + weight + ")";
                Check.due(call, x.weigh(character, weight), before);
                int others = character == 0 ? 15 : 15 - 1 + 9;
                // All three kinds are different, so each character needs two changes.
                Check.due("length(0) after " + call, x.length(0), 2 * (weight + others));
                before = weight;
            }
        }
        Check.due("weigh(7, 1) between", x.weigh(7, 1), 1);
    }

    private static void wrongWeight() {
        Check.says("IllegalArgumentException when weight is not 1 .. 9.");
        ShortTrees x = Check.of("a 01;");
        for (int character = 0; character < 2; character++) {
            int at = character;
            Check.due("weigh(" + at + ", 1)", x.weigh(at, 1), 1);
            Check.dueThrow("weigh(" + at + ", 0)", IllegalArgumentException.class, () -> x.weigh(at, 0));
            Check.due("weigh(" + at + ", 9)", x.weigh(at, 9), 1);
            Check.dueThrow("weigh(" + at + ", 10)", IllegalArgumentException.class, () -> x.weigh(at, 10));
            for (int weight : Samples.FAR) {
                Check.dueThrow("weigh(" + at + ", " + weight + ")", IllegalArgumentException.class,
                        () -> x.weigh(at, weight));
            }
            Check.dueThrow("weigh(" + at + ", 257)", IllegalArgumentException.class, () -> x.weigh(at, 257));
            Check.due("weigh(" + at + ", 5) after wrong ones", x.weigh(at, 5), 9);
        }
    }

    private static void noSuchCharacter() {
        Check.says("Throws IndexOutOfBoundsException when there is no such character");
        for (int characters = 1; characters <= 16; characters++) {
            ShortTrees x = Check.of(Samples.inTurn(1, characters));
            int past = characters;
            Check.due("weigh(" + (past - 1) + ", 9)", x.weigh(past - 1, 9), 1);
            Check.dueThrow("weigh(" + past + ", 9)", IndexOutOfBoundsException.class, () -> x.weigh(past, 9));
            Check.due("weigh(0, 9)", x.weigh(0, 9), past == 1 ? 9 : 1);
            Check.dueThrow("weigh(-1, 9)", IndexOutOfBoundsException.class, () -> x.weigh(-1, 9));
            for (int character : Samples.FAR) {
                Check.dueThrow("weigh(" + character + ", 9)", IndexOutOfBoundsException.class,
                        () -> x.weigh(character, 9));
            }
        }
    }

    private static void bothWrong() {
        Check.says("Of two exceptions the one that a call names first is thrown.");
        ShortTrees x = Check.of("a 01;b 10;c 00;");
        for (int character : new int[] {-1, 2, 16, Integer.MIN_VALUE, Integer.MAX_VALUE}) {
            for (int weight : new int[] {0, 10, -1, Integer.MIN_VALUE, Integer.MAX_VALUE}) {
                Check.dueThrow("weigh(" + character + ", " + weight + ")", IndexOutOfBoundsException.class,
                        () -> x.weigh(character, weight));
            }
        }
    }

    private static void nothingIsFoundThen() {
        Check.says("nothing is found then");
        for (int weight = 1; weight <= 9; weight++) {
            ShortTrees x = Check.of("a 00;b 01;c 11;d 10;");
            x.search();
            Check.due("found() before", x.found(), 2);
            x.weigh(1, weight);
            Check.due("found() after weigh(1, " + weight + ")", x.found(), 0);
            Check.dueThrow("best(0)", IndexOutOfBoundsException.class, () -> x.best(0));
            Check.dueThrow("share(6)", IllegalStateException.class, () -> x.share(6));
            Check.dueThrow("common(0.5)", IllegalStateException.class, () -> x.common(0.5f));
        }
    }

    private static void refusedKeepsTheFinds() {
        Check.says("What throws changes nothing else.");
        ShortTrees x = Check.of("a 00;b 01;c 11;d 10;");
        x.weigh(0, 3);
        x.search();
        Check.due("found() before", x.found(), 1);
        Check.dueThrow("weigh(0, 10)", IllegalArgumentException.class, () -> x.weigh(0, 10));
        Check.dueThrow("weigh(0, 0)", IllegalArgumentException.class, () -> x.weigh(0, 0));
        Check.dueThrow("weigh(2, 1)", IndexOutOfBoundsException.class, () -> x.weigh(2, 1));
        Check.dueThrow("weigh(-1, 1)", IndexOutOfBoundsException.class, () -> x.weigh(-1, 1));
        Check.due("found() after", x.found(), 1);
        Check.due("best(0) after", x.best(0), 1);
        Check.due("length(1) after", x.length(1), 3 + 2);
        Check.due("weigh(0, 1) after", x.weigh(0, 1), 3);
        Check.due("weigh(1, 1) after", x.weigh(1, 1), 1);
    }
}
