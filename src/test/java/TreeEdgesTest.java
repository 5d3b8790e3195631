import java.util.function.IntFunction;

/** The edges of promises 6, 7, 8 and 17 at the first and the last tree, and of how trees are numbered. */
public final class TreeEdgesTest {
    private static final Class<IndexOutOfBoundsException> INDEX = IndexOutOfBoundsException.class;

    public static void main(String[] args) {
        noneWithFewerThanThree();
        howManyTrees();
        firstTree();
        lastTree();
        lastChoices();
        noSuchTree();
        noSuchCharacter();
        noSuchTreeNorCharacter();
        fewestChanges();
        mostChanges();
        longestTree();
        Check.end();
    }

    private static void noneWithFewerThanThree() {
        Check.says("How many trees there are; 0 with fewer than three kinds.");
        Check.due("trees() without a table", new ShortTrees().trees(), 0);
        Check.due("trees() of one kind", Check.of(Samples.inTurn(1, 16)).trees(), 0);
        Check.due("trees() of two kinds", Check.of(Samples.inTurn(2, 16)).trees(), 0);
        Check.due("trees() of three kinds", Check.of(Samples.inTurn(3, 1)).trees(), 1);
        ShortTrees x = Check.of(Samples.inTurn(7, 1));
        Check.table(x, Samples.inTurn(2, 1));
        Check.due("trees() of two kinds after seven", x.trees(), 0);
    }

    private static void howManyTrees() {
        Check.says("There are 1 * 3 * 5 * .. * (2 * n - 5) trees; with 3 kinds one.");
        int count = 1;
        for (int kinds = 3; kinds <= 7; kinds++) {
            count *= 2 * kinds - 5;
            Check.due("trees() of " + kinds, Check.of(Samples.inTurn(kinds, 1)).trees(), count);
        }
        Check.due("trees() at most", count, 945);
    }

    private static void firstTree() {
        Check.says("A tree's NUMBER is 0 for the choices 0");
        String[] first = {"(a,b,c);", "(a,(b,d),c);", "(a,((b,e),d),c);", "(a,(((b,f),e),d),c);",
            "(a,((((b,g),f),e),d),c);"};
        for (int kinds = 3; kinds <= 7; kinds++) {
            Check.due("tree 0 of " + kinds, Check.write(Check.of(Samples.inTurn(kinds, 1)), 0), first[kinds - 3]);
        }
    }

    private static void lastTree() {
        Check.says("the INNER nodes 2 .. j - 1 (choices j - 1 .. 2 * j - 4)");
        String[] last = {"(a,b,c);", "(a,(b,c),d);", "(a,((b,c),d),e);", "(a,(((b,c),d),e),f);",
            "(a,((((b,c),d),e),f),g);"};
        for (int kinds = 3; kinds <= 7; kinds++) {
            int tree = Samples.TREES[kinds] - 1;
            Check.due("the last tree of " + kinds, Check.write(Check.of(Samples.inTurn(kinds, 1)), tree),
                    last[kinds - 3]);
        }
    }

    /** All choices of the last kind on the tree that has the choices 0 before. */
    private static void lastChoices() {
        Check.says("the leaves 1 .. j - 1 (choices 0 .. j - 2) and the INNER nodes");
        String[] four = {"(a,(b,d),c);", "(a,b,(c,d));", "(a,(b,c),d);"};
        String[] seven = {"(a,((((b,g),f),e),d),c);", "(a,(((b,f),e),d),(c,g));", "(a,(((b,f),e),(d,g)),c);",
            "(a,(((b,f),(e,g)),d),c);", "(a,(((b,(f,g)),e),d),c);", "(a,((((b,f),e),d),c),g);",
            "(a,((((b,f),e),d),g),c);", "(a,((((b,f),e),g),d),c);", "(a,((((b,f),g),e),d),c);"};
        ShortTrees x = Check.of(Samples.inTurn(4, 1));
        for (int tree = 0; tree < 3; tree++) {
            Check.due("tree " + tree + " of four", Check.write(x, tree), four[tree]);
        }
        ShortTrees y = Check.of(Samples.inTurn(7, 1));
        for (int tree = 0; tree < 9; tree++) {
            Check.due("tree " + tree + " of seven", Check.write(y, tree), seven[tree]);
        }
        // Tree 9 is the first with the choice 1 for kind f.
        Check.due("tree 9 of seven", Check.write(y, 9), "(a,(((b,g),e),d),(c,f));");
    }

    private static void noSuchTree() {
        for (int kinds = 0; kinds <= 7; kinds++) {
            ends("length", kinds, x -> tree -> x.length(tree));
            ends("changes", kinds, x -> tree -> x.changes(tree, 0));
            ends("changes of the last", kinds, x -> tree -> x.changes(tree, 1));
            ends("write", kinds, x -> tree -> x.write(tree));
        }
    }

    interface Call {
        IntFunction<Object> on(ShortTrees x);
    }

    private static void ends(String name, int kinds, Call call) {
        Check.says("Throws IndexOutOfBoundsException when there is no such tree (" + name + ")");
        ShortTrees x = kinds == 0 ? new ShortTrees() : Check.of(Samples.alike(kinds, "01"));
        int count = Samples.TREES[kinds];
        if (count > 0) {
            Object due = name.equals("write") ? 4 * kinds - 4 : 0;
            Check.due(name + "(0) of " + kinds, call.on(x).apply(0), due);
            Check.due(name + "(" + (count - 1) + ") of " + kinds, call.on(x).apply(count - 1), due);
        }
        Check.dueThrow(name + "(" + count + ") of " + kinds, INDEX, () -> call.on(x).apply(count));
        Check.dueThrow(name + "(-1) of " + kinds, INDEX, () -> call.on(x).apply(-1));
        for (int tree : Samples.FAR) {
            Check.dueThrow(name + "(" + tree + ") of " + kinds, INDEX, () -> call.on(x).apply(tree));
        }
    }

    private static void noSuchCharacter() {
        Check.says("Throws IndexOutOfBoundsException when there is no such .. character.");
        for (int characters = 1; characters <= 16; characters++) {
            ShortTrees x = Check.of(Samples.inTurn(3, characters));
            int past = characters;
            Check.due("changes(0, 0)", x.changes(0, 0), 2);
            Check.due("changes(0, " + (past - 1) + ")", x.changes(0, past - 1), 2);
            Check.dueThrow("changes(0, " + past + ")", INDEX, () -> x.changes(0, past));
            Check.dueThrow("changes(0, -1)", INDEX, () -> x.changes(0, -1));
            for (int character : Samples.FAR) {
                Check.dueThrow("changes(0, " + character + ")", INDEX, () -> x.changes(0, character));
            }
        }
    }

    private static void noSuchTreeNorCharacter() {
        Check.says("Throws IndexOutOfBoundsException when there is no such tree or character.");
        ShortTrees x = Check.of(Samples.inTurn(4, 2));
        int[][] none = {{-1, -1}, {-1, 2}, {3, -1}, {3, 2}, {-1, 1}, {3, 1}, {2, -1}, {2, 2}};
        for (int[] at : none) {
            Check.dueThrow("changes(" + at[0] + ", " + at[1] + ")", INDEX, () -> x.changes(at[0], at[1]));
        }
        Check.due("changes(2, 1)", x.changes(2, 1), 3);
    }

    private static void fewestChanges() {
        Check.says("every leaf one out of its set, so that there are as few as can be");
        for (String entry : new String[] {"0", "3", "?", "{03}"}) {
            ShortTrees x = Check.of(Samples.alike(7, entry.repeat(4)));
            Check.due("changes(0, 3) of " + entry, x.changes(0, 3), 0);
            Check.due("length(944) of " + entry, x.length(944), 0);
            Check.due("search() of " + entry, x.search(), 0);
        }
        // One state is in all sets, though they are all different.
        ShortTrees one = Check.of("a {03};b {13};c {23};d 3;e ?;f {013};g {123};");
        Check.due("length(0) of one state in common", one.length(0), 0);
        Check.due("length(944) of one state in common", one.length(944), 0);
    }

    private static void mostChanges() {
        Check.says("A character needs on a tree as many changes as there are edges with different states");
        ShortTrees x = Check.of(Samples.inTurn(7, 1));
        // Seven kinds with four states: two can be alike at least, so five changes are the most.
        Check.due("changes(944, 0)", x.changes(944, 0), 5);
        Check.due("search()", x.search(), 3);
        ShortTrees y = Check.of(Samples.inTurn(4, 1));
        for (int tree = 0; tree < 3; tree++) {
            Check.due("changes(" + tree + ", 0) of four states", y.changes(tree, 0), 3);
        }
        Check.due("changes(0, 0) of three states", Check.of(Samples.inTurn(3, 1)).changes(0, 0), 2);
    }

    private static void longestTree() {
        Check.says("A tree's LENGTH is the sum of all characters' changes times their weights.");
        ShortTrees x = Check.of(Samples.inTurn(7, 16));
        Check.due("length(944)", x.length(944), 16 * 5);
        for (int character = 0; character < 16; character++) {
            x.weigh(character, 9);
        }
        Check.due("length(944) at most", x.length(944), 16 * 5 * 9);
        Check.due("search() at most", x.search(), 16 * 3 * 9);
        for (int character = 0; character < 16; character++) {
            Check.due("changes(944, " + character + ")", x.changes(944, character), 5);
        }
    }
}
