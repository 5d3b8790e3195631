/** The edges of promises 12, 13 and 14. */
public final class SplitEdgesTest {
    private static final Class<IndexOutOfBoundsException> INDEX = IndexOutOfBoundsException.class;
    private static final Class<IllegalStateException> STATE = IllegalStateException.class;

    public static void main(String[] args) {
        atLeastTwo();
        notAllButKindZero();
        neverKindZero();
        bitsOfNoKind();
        asManyAsThereCanBe();
        splitOfNoSuchTree();
        shareWhenNothingIsFound();
        shareOfNone();
        shareOfAll();
        shareBetween();
        distanceOfNone();
        distanceAtMost();
        distanceOfNoSuchTree();
        Check.end();
    }

    private static ShortTrees kinds(int kinds) {
        return Check.of(Samples.alike(kinds, "?"));
    }

    private static void atLeastTwo() {
        Check.says("A SPLIT of a tree is the set of kinds .. if they are at least two");
        for (int kinds = 3; kinds <= 7; kinds++) {
            ShortTrees x = kinds(kinds);
            int last = Samples.TREES[kinds] - 1;
            Check.due("split(0, 0) of " + kinds, x.split(0, 0), false);
            for (int kind = 0; kind < 8; kind++) {
                Check.due("split(0, " + (1 << kind) + ") of " + kinds, x.split(0, 1 << kind), false);
                Check.due("split(last, " + (1 << kind) + ") of " + kinds, x.split(last, 1 << kind), false);
            }
        }
        // The tree (a,(b,d),c); has two kinds together.
        Check.due("split(0, 10) of 4", kinds(4).split(0, 10), true);
    }

    private static void notAllButKindZero() {
        Check.says("A SPLIT of a tree is the set of kinds .. not all but kind 0");
        for (int kinds = 3; kinds <= 7; kinds++) {
            ShortTrees x = kinds(kinds);
            int rest = (1 << kinds) - 2;
            for (int tree = 0; tree < Math.min(15, Samples.TREES[kinds]); tree++) {
                Check.due("split(" + tree + ", " + rest + ") of " + kinds, x.split(tree, rest), false);
            }
            // The last tree has all kinds but a and the last one together, if they are two at least.
            int last = Samples.TREES[kinds] - 1;
            int fewer = rest - (1 << (kinds - 1));
            Check.due("split(" + last + ", " + fewer + ")", x.split(last, fewer), kinds > 3);
        }
    }

    private static void neverKindZero() {
        Check.says("the set of kinds that are leaves below one of its nodes that hang");
        // The tree (a,(b,d),c); seen from the other side would have a and c together.
        ShortTrees x = kinds(4);
        Check.due("split(0, 10)", x.split(0, 10), true);
        Check.due("split(0, 5)", x.split(0, 5), false);
        Check.due("split(0, 11)", x.split(0, 11), false);
        Check.due("split(0, 15)", x.split(0, 15), false);
    }

    private static void bitsOfNoKind() {
        Check.says("Whether a tree has a split.");
        ShortTrees x = kinds(4);
        Check.due("split(0, 10)", x.split(0, 10), true);
        for (int bit = 4; bit < 32; bit++) {
            Check.due("split(0, 10 and bit " + bit + ")", x.split(0, 10 | 1 << bit), false);
        }
        for (int set : Samples.FAR) {
            Check.due("split(0, " + set + ")", x.split(0, set), false);
        }
        Check.due("split(0, ~10)", x.split(0, ~10), false);
        Check.due("split(0, -10)", x.split(0, -10), false);
    }

    private static void asManyAsThereCanBe() {
        Check.says("Whether a tree has a split.");
        for (int kinds = 3; kinds <= 7; kinds++) {
            for (int tree : new int[] {0, Samples.TREES[kinds] / 2, Samples.TREES[kinds] - 1}) {
                ShortTrees x = kinds(kinds);
                int count = 0;
                for (int set = 0; set < 256; set++) {
                    count += x.split(tree, set) ? 1 : 0;
                }
                Check.due("splits of tree " + tree + " of " + kinds, count, kinds - 3);
            }
        }
    }

    private static void splitOfNoSuchTree() {
        Check.says("Throws IndexOutOfBoundsException when there is no such tree. (split)");
        for (int kinds = 0; kinds <= 7; kinds++) {
            ShortTrees x = kinds == 0 ? new ShortTrees() : kinds(kinds);
            int count = Samples.TREES[kinds];
            if (count > 0) {
                Check.due("split(0, 0) of " + kinds, x.split(0, 0), false);
                Check.due("split(" + (count - 1) + ", 6)", x.split(count - 1, 6), kinds > 3);
            }
            for (int set : new int[] {0, 6, -1}) {
                Check.dueThrow("split(" + count + ", " + set + ")", INDEX, () -> x.split(count, set));
                Check.dueThrow("split(-1, " + set + ")", INDEX, () -> x.split(-1, set));
            }
            for (int tree : Samples.FAR) {
                Check.dueThrow("split(" + tree + ", 6)", INDEX, () -> x.split(tree, 6));
            }
        }
    }

    private static void shareWhenNothingIsFound() {
        Check.says("Throws IllegalStateException when nothing is found. (share)");
        ShortTrees none = new ShortTrees();
        Check.dueThrow("share(6) without a table", STATE, () -> none.share(6));
        for (int kinds = 1; kinds <= 7; kinds++) {
            ShortTrees x = kinds(kinds);
            for (int set : new int[] {0, 6, 128, -1, Integer.MIN_VALUE, Integer.MAX_VALUE}) {
                Check.dueThrow("share(" + set + ") of " + kinds, STATE, () -> x.share(set));
            }
        }
        ShortTrees x = kinds(4);
        x.search();
        Check.due("share(6) after search()", x.share(6), 1.0f / 3.0f);
        x.weigh(0, 1);
        Check.dueThrow("share(6) after weigh()", STATE, () -> x.share(6));
        x.search();
        Check.table(x, "a 0;b 0;c 0;d 0;");
        Check.dueThrow("share(6) after table()", STATE, () -> x.share(6));
    }

    private static void shareOfNone() {
        Check.says("How many of the trees found have a split, over how many they are");
        for (int kinds = 3; kinds <= 7; kinds++) {
            ShortTrees x = kinds(kinds);
            x.search();
            int all = (1 << kinds) - 1;
            int[] none = {0, 1, 2, 1 << (kinds - 1), all, all - 1, 3, 5, 128, 128 | 6, 256 | 6, -1, -6, ~6,
                Integer.MIN_VALUE, Integer.MIN_VALUE | 6, Integer.MAX_VALUE};
            for (int set : none) {
                Check.due("share(" + set + ") of " + kinds, x.share(set), 0.0f);
            }
        }
    }

    private static void shareOfAll() {
        Check.says("How many of the trees found have a split, over how many they are");
        ShortTrees x = Check.of("a 0;b 0;c 0;d 0;e 0;f 1;g 1;");
        x.search();
        Check.due("found()", x.found(), 105);
        Check.due("share(96)", x.share(96), 1.0f);
        Check.due("share(126 - 96)", x.share(30), 15.0f / 105.0f);
    }

    private static void shareBetween() {
        Check.says("over how many they are (one division)");
        ShortTrees x = kinds(7);
        x.search();
        // Of 945 trees, 105 have a given pair or a given five of the six together, 45 a given three or four.
        Check.due("share(6)", x.share(6), 105.0f / 945.0f);
        Check.due("share(62)", x.share(62), 105.0f / 945.0f);
        Check.due("share(14)", x.share(14), 45.0f / 945.0f);
        Check.due("share(30)", x.share(30), 45.0f / 945.0f);
        // Nothing of an earlier search is counted again.
        x.search();
        Check.due("share(6) again", x.share(6), 105.0f / 945.0f);
    }

    private static void distanceOfNone() {
        Check.says("In how many splits two trees differ: those that only one of them has.");
        for (int kinds = 3; kinds <= 7; kinds++) {
            ShortTrees x = kinds(kinds);
            int last = Samples.TREES[kinds] - 1;
            Check.due("distance(0, 0) of " + kinds, x.distance(0, 0), 0);
            Check.due("distance(last, last) of " + kinds, x.distance(last, last), 0);
        }
    }

    private static void distanceAtMost() {
        Check.says("In how many splits two trees differ: those that only one of them has.");
        // The first tree puts the later kinds to b, the last one at the top: they share no split.
        for (int kinds = 4; kinds <= 7; kinds++) {
            ShortTrees x = kinds(kinds);
            int last = Samples.TREES[kinds] - 1;
            Check.due("distance(0, last) of " + kinds, x.distance(0, last), 2 * (kinds - 3));
            Check.due("distance(last, 0) of " + kinds, x.distance(last, 0), 2 * (kinds - 3));
        }
        // Trees 0 and 6 of seven, (a,((((b,g),f),e),d),c); and (a,((((b,f),e),d),g),c); share b d e f g alone.
        Check.due("distance(0, 6)", kinds(7).distance(0, 6), 6);
        // Tree 8, (a,((((b,f),g),e),d),c); has all of the first one's but the innermost.
        Check.due("distance(0, 8)", kinds(7).distance(0, 8), 2);
    }

    private static void distanceOfNoSuchTree() {
        Check.says("Throws IndexOutOfBoundsException when one isn't there.");
        for (int kinds = 0; kinds <= 7; kinds++) {
            ShortTrees x = kinds == 0 ? new ShortTrees() : kinds(kinds);
            int count = Samples.TREES[kinds];
            int last = Math.max(0, count - 1);
            for (int tree : new int[] {-1, count, Integer.MIN_VALUE, Integer.MAX_VALUE}) {
                Check.dueThrow("distance(" + tree + ", 0)", INDEX, () -> x.distance(tree, 0));
                Check.dueThrow("distance(0, " + tree + ")", INDEX, () -> x.distance(0, tree));
                Check.dueThrow("distance(" + tree + ", last)", INDEX, () -> x.distance(tree, last));
                Check.dueThrow("distance(last, " + tree + ")", INDEX, () -> x.distance(last, tree));
                Check.dueThrow("distance(" + tree + ", the same)", INDEX, () -> x.distance(tree, tree));
            }
        }
    }
}
