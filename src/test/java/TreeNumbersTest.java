import java.util.TreeSet;

/** Promises 6, 7, 8, 12, 14 and 17: which trees there are, and which numbers. */
public final class TreeNumbersTest {
    private static final String[] TABLES = {
        "a 0;", "a 0;b 0;", "a 0;b 0;c 0;", "a 0;b 0;c 0;d 0;", "a 0;b 0;c 0;d 0;e 0;",
        "a 0;b 0;c 0;d 0;e 0;f 0;", "a 0;b 0;c 0;d 0;e 0;f 0;g 0;",
    };
    private static final int[] COUNTS = {0, 0, 1, 3, 15, 105, 945};
    private static final String[] OF_FIVE = {
        "(a,((b,e),d),c);", "(a,(b,d),(c,e));", "(a,(b,(d,e)),c);", "(a,((b,d),c),e);", "(a,((b,d),e),c);",
    };

    public static void main(String[] args) {
        counts();
        wrongTrees();
        writings();
        Check.end();
    }

    private static void counts() {
        for (int i = 0; i < TABLES.length; i++) {
            ShortTrees x = Check.of(TABLES[i]);
            Check.due("trees() of " + TABLES[i], x.trees(), COUNTS[i]);
            TreeSet<String> all = new TreeSet<>();
            // An object is used for 512 calls only, so each tree gets its own.
            for (int tree = 0; tree < COUNTS[i]; tree++) {
                all.add(Check.write(Check.of(TABLES[i]), tree));
            }
            Check.due("different trees of " + TABLES[i], all.size(), COUNTS[i]);
        }
    }

    private static void wrongTrees() {
        for (int i = 0; i < TABLES.length; i++) {
            int[] none = {COUNTS[i], -1, Integer.MIN_VALUE, Integer.MAX_VALUE};
            ShortTrees x = Check.of(TABLES[i]);
            for (int tree : none) {
                refuses(x, tree);
            }
        }
        ShortTrees x = Check.of(TABLES[3]);
        for (int character : new int[] {1, -1, 16, Integer.MIN_VALUE, Integer.MAX_VALUE}) {
            Check.dueThrow("changes(0, " + character + ")", IndexOutOfBoundsException.class,
                    () -> x.changes(0, character));
        }
        Check.dueThrow("distance(0, 3)", IndexOutOfBoundsException.class, () -> x.distance(0, 3));
        Check.dueThrow("distance(3, 0)", IndexOutOfBoundsException.class, () -> x.distance(3, 0));
    }

    private static void refuses(ShortTrees x, int tree) {
        Class<IndexOutOfBoundsException> due = IndexOutOfBoundsException.class;
        Check.dueThrow("changes(" + tree + ", 0)", due, () -> x.changes(tree, 0));
        Check.dueThrow("length(" + tree + ")", due, () -> x.length(tree));
        Check.dueThrow("split(" + tree + ", 6)", due, () -> x.split(tree, 6));
        Check.dueThrow("distance(" + tree + ", 0)", due, () -> x.distance(tree, 0));
        Check.dueThrow("consistency(" + tree + ")", due, () -> x.consistency(tree));
        Check.dueThrow("retention(" + tree + ")", due, () -> x.retention(tree));
        Check.dueThrow("write(" + tree + ")", due, () -> x.write(tree));
    }

    private static void writings() {
        Check.due("three kinds", Check.write(Check.of(TABLES[2]), 0), "(a,b,c);");
        ShortTrees four = Check.of(TABLES[3]);
        Check.due("four kinds, tree 0", Check.write(four, 0), "(a,(b,d),c);");
        Check.due("four kinds, tree 1", Check.write(four, 1), "(a,b,(c,d));");
        Check.due("four kinds, tree 2", Check.write(four, 2), "(a,(b,c),d);");
        ShortTrees five = Check.of(TABLES[4]);
        for (int tree = 0; tree < 5; tree++) {
            Check.due("five kinds, tree " + tree, Check.write(five, tree), OF_FIVE[tree]);
        }
        Check.due("five kinds, tree 13", Check.write(five, 13), "(a,((b,c),e),d);");
        Check.due("five kinds, tree 14", Check.write(five, 14), "(a,((b,c),d),e);");
        Check.due("seven kinds, tree 944", Check.write(Check.of(TABLES[6]), 944), "(a,((((b,c),d),e),f),g);");
    }
}
