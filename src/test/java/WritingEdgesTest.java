/** The edges of promises 17, 18 and 19. */
public final class WritingEdgesTest {
    private static final Class<IllegalArgumentException> ARGUMENT = IllegalArgumentException.class;
    private static final Class<IllegalStateException> STATE = IllegalStateException.class;
    private static final char NONE = 0;

    public static void main(String[] args) {
        shortestAndLongest();
        refusedWriteKeepsTheWriting();
        leastAndGreatestAbove();
        wrongAbove();
        commonWhenNothingIsFound();
        bothWrong();
        shareThatIsNotAbove();
        shareOfOne();
        nothingInCommon();
        allInCommon();
        orderOfWhatHangs();
        nothingWritten();
        endsOfTheWriting();
        shorterAfterLonger();
        whatWasWrittenLast();
        Check.end();
    }

    private static void shortestAndLongest() {
        Check.says("Writes a tree down: how many characters.");
        for (int kinds = 3; kinds <= 7; kinds++) {
            ShortTrees x = Check.of(Samples.alike(kinds, "0"));
            int last = Samples.TREES[kinds] - 1;
            Check.due("write(0) of " + kinds, x.write(0), 4 * kinds - 4);
            Check.due("write(last) of " + kinds, x.write(last), 4 * kinds - 4);
        }
        Check.says("So the one tree of three kinds is (a,b,c);");
        Check.due("written by write(0)", Check.write(Check.of("a 0;b 0;c 0;"), 0), "(a,b,c);");
        // Two pairs and the rest: brackets that end together, and one that begins another.
        Check.due("written by write(1)", Check.write(Check.of(Samples.alike(5, "0")), 1), "(a,(b,d),(c,e));");
    }

    private static void refusedWriteKeepsTheWriting() {
        Check.says("What throws changes nothing else. (write)");
        ShortTrees x = Check.of("a 0;b 0;c 0;d 0;");
        x.write(2);
        for (int tree : new int[] {-1, 3, Integer.MIN_VALUE, Integer.MAX_VALUE}) {
            Check.dueThrow("write(" + tree + ")", IndexOutOfBoundsException.class, () -> x.write(tree));
            Check.due("written after it", Check.written(x, 13), "(a,(b,c),d);" + NONE);
        }
        Check.table(x, "a 0;b 0;");
        Check.dueThrow("write(0) of two kinds", IndexOutOfBoundsException.class, () -> x.write(0));
        Check.due("written after it", Check.written(x, 13), "(a,(b,c),d);" + NONE);
    }

    /** Three of five trees have c and d together. */
    private static ShortTrees threeOfFive() {
        ShortTrees x = Check.of("a 0;b 0;c 1;d 1;e ?;");
        x.search();
        return x;
    }

    private static void leastAndGreatestAbove() {
        Check.says("IllegalArgumentException when above isn't 0.5 .. 1. (the ends)");
        ShortTrees x = threeOfFive();
        Check.due("common(0.5)", Check.common(x, 0.5f), "(a,b,((c,d),e));");
        Check.due("common above 0.5", Check.common(x, Math.nextUp(0.5f)), "(a,b,((c,d),e));");
        Check.due("common below 1", Check.common(x, Math.nextDown(1.0f)), "(a,b,c,d,e);");
        Check.due("common(1)", Check.common(x, 1.0f), "(a,b,c,d,e);");
    }

    private static void wrongAbove() {
        Check.says("IllegalArgumentException when above isn't 0.5 .. 1.");
        ShortTrees x = threeOfFive();
        x.common(0.5f);
        float[] wrong = {Math.nextDown(0.5f), Math.nextUp(1.0f), 0.0f, -0.0f, -0.5f, -0.75f, -1.0f, 1.5f, 50.0f,
            Float.MIN_VALUE, Float.MAX_VALUE, -Float.MAX_VALUE, Float.NEGATIVE_INFINITY, Float.POSITIVE_INFINITY,
            Float.NaN};
        for (float above : wrong) {
            Check.dueThrow("common(" + above + ")", ARGUMENT, () -> x.common(above));
        }
        Check.due("written after them", Check.written(x, 17), "(a,b,((c,d),e));" + NONE);
        Check.due("found() after them", x.found(), 5);
    }

    private static void commonWhenNothingIsFound() {
        Check.says("Throws IllegalStateException when nothing is found (common)");
        ShortTrees none = new ShortTrees();
        Check.dueThrow("common(0.5) without a table", STATE, () -> none.common(0.5f));
        for (int kinds = 1; kinds <= 7; kinds++) {
            ShortTrees x = Check.of(Samples.alike(kinds, "0"));
            Check.dueThrow("common(0.5) of " + kinds, STATE, () -> x.common(0.5f));
            Check.dueThrow("common(1) of " + kinds, STATE, () -> x.common(1.0f));
            Check.due("written(0) of " + kinds, x.written(0), NONE);
        }
        ShortTrees x = threeOfFive();
        x.common(0.5f);
        x.weigh(0, 1);
        Check.dueThrow("common(0.5) after weigh()", STATE, () -> x.common(0.5f));
        x.search();
        Check.table(x, Samples.alike(5, "0"));
        Check.dueThrow("common(1) after table()", STATE, () -> x.common(1.0f));
        Check.due("written after them", Check.written(x, 17), "(a,b,((c,d),e));" + NONE);
    }

    private static void bothWrong() {
        Check.says("Of two exceptions the one that a call names first is thrown. (common)");
        ShortTrees x = Check.of("a 0;b 0;c 1;d 1;e ?;");
        for (float above : new float[] {Math.nextDown(0.5f), Math.nextUp(1.0f), 0.0f, -1.0f, 2.0f, Float.NaN}) {
            Check.dueThrow("common(" + above + ")", STATE, () -> x.common(above));
        }
    }

    private static void shareThatIsNotAbove() {
        Check.says("just the splits of which the share is above \"above\"");
        ShortTrees half = Check.of("a 00;b 01;c 11;d 10;");
        half.search();
        Check.due("share(12)", half.share(12), 0.5f);
        Check.due("common(0.5) of a half", Check.common(half, 0.5f), "(a,b,c,d);");
        ShortTrees x = threeOfFive();
        float part = x.share(12);
        Check.due("share(12)", part, 3.0f / 5.0f);
        Check.due("common just below the share", Check.common(x, Math.nextDown(part)), "(a,b,((c,d),e));");
        Check.due("common at the share", Check.common(x, part), "(a,b,c,d,e);");
        Check.due("common just above the share", Check.common(x, Math.nextUp(part)), "(a,b,c,d,e);");
    }

    private static void shareOfOne() {
        Check.says("or 1");
        ShortTrees x = Check.of("a 0;b 0;c 0;d 1;e 1;");
        x.search();
        Check.due("found()", x.found(), 3);
        Check.due("share(24)", x.share(24), 1.0f);
        Check.due("common(1)", Check.common(x, 1.0f), "(a,b,c,(d,e));");
        Check.due("common below 1", Check.common(x, Math.nextDown(1.0f)), "(a,b,c,(d,e));");
        Check.due("common(0.5)", Check.common(x, 0.5f), "(a,b,c,(d,e));");
    }

    private static void nothingInCommon() {
        Check.says("nodes of which may have more than two things hanging there");
        for (int kinds = 4; kinds <= 7; kinds++) {
            ShortTrees x = Check.of(Samples.alike(kinds, "?"));
            x.search();
            Check.due("common(0.5) of " + kinds, Check.common(x, 0.5f),
                    "(a,b,c,d,e,f,g".substring(0, 2 * kinds) + ");");
        }
        // Not at kind 0, but at a node further in: b c d and e have the same, and nothing tells them apart.
        ShortTrees inside = Check.of("a 0;b 1;c 1;d 1;e 1;f 0;g 0;");
        inside.search();
        Check.due("common(1) inside", Check.common(inside, 1.0f), "(a,(b,c,d,e),f,g);");
    }

    private static void allInCommon() {
        Check.says("the tree that has just the splits of which the share is above \"above\", or 1.");
        ShortTrees three = Check.of("a 0;b 1;c 2;");
        three.search();
        Check.due("common(0.5) of three", Check.common(three, 0.5f), "(a,b,c);");
        Check.due("common(1) of three", Check.common(three, 1.0f), "(a,b,c);");
        ShortTrees seven = Check.of("a 0000;b 1111;c 1111;d 0111;e 0011;f 0001;g 0000;");
        seven.search();
        Check.due("found()", seven.found(), 1);
        Check.due("common(1) of one tree", seven.common(1.0f), 24);
        Check.due("written by common(1)", Check.written(seven, 24), "(a,((((b,c),d),e),f),g);");
        Check.due("written by write(944)", Check.write(seven, 944), "(a,((((b,c),d),e),f),g);");
    }

    private static void orderOfWhatHangs() {
        Check.says("the one with the least kind first, then rising by their least kinds");
        // The group c g stands behind b and before d, though g is the greatest.
        ShortTrees x = Check.of("a 00;b 00;c 10;d 01;e 00;f 01;g 10;");
        x.search();
        Check.due("common(1)", Check.common(x, 1.0f), "(a,b,(c,g),(d,f),e);");
        ShortTrees y = Check.of("a 00;b 10;c 11;d 00;e 11;f 10;g 11;");
        y.search();
        Check.due("common(1) of groups in groups", Check.common(y, 1.0f), "(a,(b,(c,e,g),f),d);");
        Check.says("a node below which several leaves are is (, what hangs there, the one with the least kind first");
        // In tree 2 of four kinds inner node 3 holds node 2: the node stands before the leaf that came later.
        Check.due("write(2)", Check.write(Check.of("a 0;b 0;c 0;d 0;"), 2), "(a,(b,c),d);");
        Check.due("write(1)", Check.write(Check.of("a 0;b 0;c 0;d 0;"), 1), "(a,b,(c,d));");
    }

    private static void nothingWritten() {
        Check.says("(0 when there is none such)");
        ShortTrees x = Check.of("a 0;b 0;c 0;");
        x.search();
        for (int i : new int[] {0, 1, 7, 23, 24, 25}) {
            Check.due("written(" + i + ") before anything is written", x.written(i), NONE);
        }
        for (int i : Samples.FAR) {
            Check.due("written(" + i + ") before anything is written", x.written(i), NONE);
        }
    }

    private static void endsOfTheWriting() {
        Check.says("Character i of what was written down last (0 when there is none such).");
        for (int kinds = 3; kinds <= 7; kinds++) {
            ShortTrees x = Check.of(Samples.alike(kinds, "0"));
            int size = x.write(0);
            Check.due("written(0) of " + kinds, x.written(0), '(');
            Check.due("written(-1) of " + kinds, x.written(-1), NONE);
            Check.due("written(" + (size - 1) + ") of " + kinds, x.written(size - 1), ';');
            Check.due("written(" + size + ") of " + kinds, x.written(size), NONE);
            for (int i : Samples.FAR) {
                Check.due("written(" + i + ") of " + kinds, x.written(i), NONE);
            }
            Check.due("written(256)", x.written(256), NONE);
        }
    }

    private static void shorterAfterLonger() {
        Check.says("Character i of what was written down last (0 when there is none such).");
        ShortTrees x = Check.of(Samples.alike(7, "0"));
        x.search();
        Check.due("write(944)", x.write(944), 24);
        Check.due("common(0.5)", x.common(0.5f), 16);
        Check.due("written(15)", x.written(15), ';');
        for (int i = 16; i < 26; i++) {
            Check.due("written(" + i + ")", x.written(i), NONE);
        }
        Check.table(x, "a 0;b 0;c 0;");
        Check.due("write(0) of three", x.write(0), 8);
        for (int i = 8; i < 26; i++) {
            Check.due("written(" + i + ") of three", x.written(i), NONE);
        }
    }

    private static void whatWasWrittenLast() {
        Check.says("Character i of what was written down last");
        ShortTrees x = Check.of("a 0;b 0;c 1;d 1;");
        x.search();
        Check.due("write(0)", Check.write(x, 0), "(a,(b,d),c);");
        Check.due("common(1)", Check.common(x, 1.0f), "(a,b,(c,d));");
        Check.due("write(2)", Check.write(x, 2), "(a,(b,c),d);");
        x.weigh(0, 2);
        x.search();
        x.type('a');
        x.table();
        Check.due("written after other calls", Check.written(x, 12), "(a,(b,c),d);");
        Check.table(x, "a 0;");
        Check.due("written after a table", Check.written(x, 12), "(a,(b,c),d);");
    }
}
