/** The edges of promises 15 and 16, and of a character's least and most. */
public final class IndexEdgesTest {
    private static final Class<IndexOutOfBoundsException> INDEX = IndexOutOfBoundsException.class;
    /** The entry of each of four kinds for one character, and what is the least and the most of it. */
    private static final String[] ENTRIES = {"0000", "????", "0001", "0011", "0012", "0123", "0?1?", "3333", "0003"};
    private static final int[] LEAST = {0, 0, 1, 1, 2, 3, 1, 0, 1};
    private static final int[] MOST = {0, 0, 1, 2, 2, 3, 1, 0, 1};

    public static void main(String[] args) {
        consistencyWithoutLength();
        consistencyAtMost();
        consistencyBelow();
        consistencyOfNoSuchTree();
        retentionWhenAlike();
        retentionAtMost();
        retentionAtLeast();
        retentionOfNoSuchTree();
        leastOfACharacter();
        mostOfACharacter();
        Check.end();
    }

    private static void consistencyWithoutLength() {
        Check.says("1 when the length is 0. (consistency)");
        for (String entry : new String[] {"0", "?", "{12}", "0123??{03}0"}) {
            ShortTrees x = Check.of(Samples.alike(7, entry));
            Check.due("length(0) of " + entry, x.length(0), 0);
            Check.due("consistency(0) of " + entry, x.consistency(0), 1.0f);
            Check.due("consistency(944) of " + entry, x.consistency(944), 1.0f);
        }
        Check.due("consistency(0) of three", Check.of(Samples.alike(3, "0")).consistency(0), 1.0f);
    }

    private static void consistencyAtMost() {
        Check.says("The table's least over a tree's length (one division)");
        ShortTrees x = Check.of("a 0;b 0;c 1;d 1;");
        Check.due("length(1)", x.length(1), 1);
        Check.due("consistency(1)", x.consistency(1), 1.0f);
        Check.due("consistency(0)", x.consistency(0), 1.0f / 2.0f);
        ShortTrees three = Check.of("a 0;b 1;c 2;");
        Check.due("consistency(0) of three", three.consistency(0), 2.0f / 2.0f);
    }

    private static void consistencyBelow() {
        Check.says("The table's least over a tree's length (one division)");
        ShortTrees x = Check.of(Samples.inTurn(7, 16));
        for (int character = 0; character < 16; character++) {
            x.weigh(character, 9);
        }
        Check.due("consistency(944)", x.consistency(944), 432.0f / 720.0f);
        ShortTrees y = Check.of("a 01;b 02;c 13;d 10;");
        // Tree 0 has b with d: two changes for the first character and three for the other.
        y.weigh(1, 7);
        Check.due("length(0)", y.length(0), 2 + 3 * 7);
        Check.due("consistency(0)", y.consistency(0), 22.0f / 23.0f);
    }

    private static void consistencyOfNoSuchTree() {
        Check.says("Throws IndexOutOfBoundsException when there is no such tree. (consistency)");
        for (int kinds = 0; kinds <= 7; kinds++) {
            ShortTrees x = kinds == 0 ? new ShortTrees() : Check.of(Samples.alike(kinds, "01"));
            int count = Samples.TREES[kinds];
            if (count > 0) {
                Check.due("consistency(0) of " + kinds, x.consistency(0), 1.0f);
                Check.due("consistency(last) of " + kinds, x.consistency(count - 1), 1.0f);
            }
            Check.dueThrow("consistency(" + count + ") of " + kinds, INDEX, () -> x.consistency(count));
            Check.dueThrow("consistency(-1) of " + kinds, INDEX, () -> x.consistency(-1));
            for (int tree : Samples.FAR) {
                Check.dueThrow("consistency(" + tree + ")", INDEX, () -> x.consistency(tree));
            }
        }
    }

    private static void retentionWhenAlike() {
        Check.says("1 when both are alike. (retention)");
        String[] alike = {Samples.alike(7, "0"), Samples.alike(7, "?"), "a 0;b 0;c 0;d 1;", "a 0;b 1;c 2;d 3;",
            "a 0;b 1;c 2;", "a {01};b {12};c {02};d ?;", "a 00;b 00;c 01;d 10;"};
        for (String text : alike) {
            ShortTrees x = Check.of(text);
            for (int tree : new int[] {0, x.trees() - 1}) {
                Check.due("retention(" + tree + ") of " + text, x.retention(tree), 1.0f);
            }
        }
    }

    private static void retentionAtMost() {
        Check.says("(The table's most less a tree's length) over (its most less its least), one division");
        ShortTrees x = Check.of("a 0;b 0;c 1;d 1;");
        Check.due("length(1) is the least", x.length(1), 1);
        Check.due("retention(1)", x.retention(1), 1.0f);
        ShortTrees seven = Check.of(Samples.inTurn(7, 1));
        int least = seven.search();
        Check.due("search() is the least", least, 3);
        Check.due("retention(best(0))", seven.retention(seven.best(0)), 1.0f);
    }

    private static void retentionAtLeast() {
        Check.says("(The table's most less a tree's length) over (its most less its least), one division");
        ShortTrees x = Check.of("a 0;b 0;c 1;d 1;");
        Check.due("length(0) is the most", x.length(0), 2);
        Check.due("retention(0)", x.retention(0), 0.0f);
        ShortTrees seven = Check.of(Samples.inTurn(7, 16));
        Check.due("length(944) is the most", seven.length(944), 16 * 5);
        Check.due("retention(944)", seven.retention(944), 0.0f);
        ShortTrees between = Check.of("a 000;b 001;c 110;d 111;");
        between.weigh(2, 4);
        // Tree 1 has c with d: the third character needs two changes, the others one each.
        Check.due("retention(1)", between.retention(1), 2.0f / 6.0f);
    }

    private static void retentionOfNoSuchTree() {
        Check.says("Throws likewise. (retention)");
        for (int kinds = 0; kinds <= 7; kinds++) {
            ShortTrees x = kinds == 0 ? new ShortTrees() : Check.of(Samples.alike(kinds, "01"));
            int count = Samples.TREES[kinds];
            if (count > 0) {
                Check.due("retention(0) of " + kinds, x.retention(0), 1.0f);
                Check.due("retention(last) of " + kinds, x.retention(count - 1), 1.0f);
            }
            Check.dueThrow("retention(" + count + ") of " + kinds, INDEX, () -> x.retention(count));
            Check.dueThrow("retention(-1) of " + kinds, INDEX, () -> x.retention(-1));
            for (int tree : Samples.FAR) {
                Check.dueThrow("retention(" + tree + ")", INDEX, () -> x.retention(tree));
            }
        }
    }

    /** Beside the character stands another, a b against c d, of which the least is 1 and the most 2. */
    private static ShortTrees withAnother(String entries) {
        StringBuilder text = new StringBuilder();
        for (int kind = 0; kind < 4; kind++) {
            text.append(Samples.row(kind, entries.charAt(kind) + "" + "0011".charAt(kind)));
        }
        return Check.of(text.toString());
    }

    private static void leastOfACharacter() {
        Check.says("LEAST of a character: the least number of states that have one in common with every kind's set,"
                + " less 1.");
        for (int i = 0; i < ENTRIES.length; i++) {
            ShortTrees x = withAnother(ENTRIES[i]);
            for (int tree = 0; tree < 3; tree++) {
                Check.due("consistency(" + tree + ") of " + ENTRIES[i], x.consistency(tree),
                        (LEAST[i] + 1.0f) / x.length(tree));
            }
        }
    }

    private static void mostOfACharacter() {
        Check.says("MOST: n less the greatest number of kinds whose sets have one and the same state.");
        for (int i = 0; i < ENTRIES.length; i++) {
            ShortTrees x = withAnother(ENTRIES[i]);
            int most = MOST[i] + 2;
            int least = LEAST[i] + 1;
            for (int tree = 0; tree < 3; tree++) {
                Check.due("retention(" + tree + ") of " + ENTRIES[i], x.retention(tree),
                        (float) (most - x.length(tree)) / (float) (most - least));
            }
        }
    }
}
