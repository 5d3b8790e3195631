/** Promises 17, 18 and 19: what is written down. */
public final class WritingTest {
    public static void main(String[] args) {
        lastWriting();
        wrongThresholds();
        thresholds();
        nested();
        Check.end();
    }

    private static void lastWriting() {
        ShortTrees x = Check.of("a 00;b 01;c 11;d 10;");
        Check.due("written(0) before", x.written(0), (char) 0);
        Check.due("write(0)", x.write(0), 12);
        Check.due("written by write(0)", Check.written(x, 12), "(a,(b,d),c);");
        for (int i : new int[] {12, -1, 24, 1000, Integer.MIN_VALUE, Integer.MAX_VALUE}) {
            Check.due("written(" + i + ")", x.written(i), (char) 0);
        }
        x.search();
        Check.due("written after search()", Check.written(x, 12), "(a,(b,d),c);");
        Check.due("common(0.5)", x.common(0.5f), 10);
        Check.due("written by common(0.5)", Check.written(x, 12), "(a,b,c,d);" + (char) 0 + (char) 0);
        Check.dueThrow("write(3)", IndexOutOfBoundsException.class, () -> x.write(3));
        Check.dueThrow("common(2)", IllegalArgumentException.class, () -> x.common(2.0f));
        Check.due("written after what throws", Check.written(x, 10), "(a,b,c,d);");
        Check.table(x, "a 0;");
        Check.due("written after a table without trees", Check.written(x, 10), "(a,b,c,d);");
    }

    private static void wrongThresholds() {
        ShortTrees x = Check.of("a 00;b 01;c 11;d 10;");
        float[] wrong = {0.0f, 0.49999997f, 1.0000001f, -0.5f, -1.0f, 2.0f, Float.NaN,
            Float.POSITIVE_INFINITY, Float.NEGATIVE_INFINITY, Float.MIN_VALUE, Float.MAX_VALUE};
        for (float above : wrong) {
            Check.dueThrow("common(" + above + ") before search()", IllegalStateException.class,
                    () -> x.common(above));
        }
        Check.dueThrow("common(0.5) before search()", IllegalStateException.class, () -> x.common(0.5f));
        x.search();
        for (float above : wrong) {
            Check.dueThrow("common(" + above + ")", IllegalArgumentException.class, () -> x.common(above));
        }
        x.weigh(0, 1);
        Check.dueThrow("common(0.5) after weigh()", IllegalStateException.class, () -> x.common(0.5f));
    }

    private static void thresholds() {
        // Kind e may stand anywhere on the tree of the others, so three of five trees have c d, and c d e.
        ShortTrees x = Check.of("a 0;b 0;c 1;d 1;e ?;");
        x.search();
        Check.due("found()", x.found(), 5);
        Check.due("share(12)", x.share(12), 0.6f);
        Check.due("share(28)", x.share(28), 0.6f);
        Check.due("common(0.5)", Check.common(x, 0.5f), "(a,b,((c,d),e));");
        Check.due("common below the share", Check.common(x, Math.nextDown(0.6f)), "(a,b,((c,d),e));");
        Check.due("common at the share", Check.common(x, 0.6f), "(a,b,c,d,e);");
        Check.due("common(1)", Check.common(x, 1.0f), "(a,b,c,d,e);");

        // Here e and f do so together, in all five trees.
        ShortTrees y = Check.of("a 00;b 00;c 10;d 10;e ?1;f ?1;");
        y.search();
        Check.due("common(0.5) of a pair", Check.common(y, 0.5f), "(a,b,((c,d),(e,f)));");
        Check.due("common(0.6) of a pair", Check.common(y, 0.6f), "(a,b,c,d,(e,f));");
        Check.due("common(1) of a pair", Check.common(y, 1.0f), "(a,b,c,d,(e,f));");

        // Two trees with half a share each: a half is not above a half.
        ShortTrees z = Check.of("a 00;b 01;c 11;d 10;");
        z.search();
        Check.due("common(0.5) of halves", Check.common(z, 0.5f), "(a,b,c,d);");

        ShortTrees three = Check.of("a 0;b 0;c 0;");
        three.search();
        Check.due("common(0.5) of three kinds", Check.common(three, 0.5f), "(a,b,c);");
    }

    private static void nested() {
        // One character for each split: c f, c f d and b g.
        ShortTrees x = Check.of("a 000;b 001;c 110;d 010;e 000;f 110;g 001;");
        Check.due("search()", x.search(), 3);
        Check.due("common(1)", Check.common(x, 1.0f), "(a,(b,g),((c,f),d),e);");
        // The group c f d stands before e by c, and d stands in it behind c f though it is less than f.
        Check.due("written(10)", x.written(10), '(');
    }
}
