/** Promises 12, 13 and 14: splits, their share and the distance of trees. */
public final class SplitTest {
    public static void main(String[] args) {
        splits();
        shares();
        distances();
        Check.end();
    }

    private static void splits() {
        ShortTrees x = Check.of("a 0;b 0;c 0;d 0;e 0;");
        // Tree 0 is (a,((b,e),d),c); with the splits b e and b d e.
        for (int set = -2; set < 200; set++) {
            Check.due("split(0, " + set + ")", x.split(0, set), set == 18 || set == 26);
        }
        // The same bits with one that no kind has.
        Check.due("split(0, 18 + 256)", x.split(0, 18 + 256), false);
        Check.due("split(0, lowest)", x.split(0, Integer.MIN_VALUE), false);
        Check.due("split(0, lowest + 18)", x.split(0, Integer.MIN_VALUE + 18), false);
        Check.due("split(0, highest)", x.split(0, Integer.MAX_VALUE), false);
        ShortTrees three = Check.of("a 0;b 0;c 0;");
        for (int set = 0; set < 8; set++) {
            Check.due("split(0, " + set + ") of three", three.split(0, set), false);
        }
    }

    private static void shares() {
        ShortTrees x = Check.of("a 00;b 01;c 11;d 10;");
        Check.dueThrow("share(12) before search()", IllegalStateException.class, () -> x.share(12));
        x.search();
        Check.due("share(12)", x.share(12), 0.5f);
        Check.due("share(6)", x.share(6), 0.5f);
        for (int set : new int[] {0, 1, 2, 3, 10, 14, 15, 128, -1, 6 + 128, 6 + 256,
            Integer.MIN_VALUE, Integer.MAX_VALUE}) {
            Check.due("share(" + set + ")", x.share(set), 0.0f);
        }
        x.weigh(0, 2);
        Check.dueThrow("share(12) after weigh()", IllegalStateException.class, () -> x.share(12));
        x.search();
        Check.due("share(12) weighed", x.share(12), 1.0f);
        Check.due("share(6) weighed", x.share(6), 0.0f);
        ShortTrees any = Check.of("a ?;b ?;c ?;d ?;");
        any.search();
        Check.due("share(12) of three trees", any.share(12), 1.0f / 3.0f);
    }

    private static void distances() {
        ShortTrees x = Check.of("a 0;b 0;c 0;d 0;e 0;");
        // Trees 0 .. 4 have the splits be bde, bd ce, de bde, bd bcd, bd bde.
        int[][] due = {{0, 4, 2, 4, 2}, {4, 0, 4, 2, 2}, {2, 4, 0, 4, 2}, {4, 2, 4, 0, 2}, {2, 2, 2, 2, 0}};
        for (int one = 0; one < 5; one++) {
            for (int other = 0; other < 5; other++) {
                Check.due("distance(" + one + ", " + other + ")", x.distance(one, other), due[one][other]);
            }
        }
    }
}
