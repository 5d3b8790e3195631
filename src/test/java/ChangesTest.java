/** Promises 7, 8, 15 and 16: changes, length and what is reckoned from them, by hand. */
public final class ChangesTest {
    public static void main(String[] args) {
        changes();
        noChanges();
        indexes();
        setsInCommon();
        weights();
        Check.end();
    }

    private static void changes() {
        // Trees 0, 1, 2 of four kinds have b with d, c with d, b with c.
        ShortTrees x = Check.of("a 000?{01};b 0113{12};c 1013{23};d 1101{3};");
        int[][] due = {{2, 1, 2, 1, 2}, {1, 2, 2, 1, 1}, {2, 2, 1, 1, 2}};
        for (int tree = 0; tree < 3; tree++) {
            int sum = 0;
            for (int character = 0; character < 5; character++) {
                sum += due[tree][character];
                Check.due("changes(" + tree + ", " + character + ")", x.changes(tree, character),
                        due[tree][character]);
            }
            Check.due("length(" + tree + ")", x.length(tree), sum);
        }
        ShortTrees three = Check.of("a 00{01}?;b 01{12}?;c 02{02}3;");
        int[] ofThree = {0, 2, 1, 0};
        for (int character = 0; character < 4; character++) {
            Check.due("changes(0, " + character + ") of three", three.changes(0, character), ofThree[character]);
        }
        ShortTrees seven = Check.of("a 0;b 1;c 2;d 3;e 0;f 1;g 2;");
        Check.due("search() of seven", seven.search(), 3);
    }

    private static void noChanges() {
        ShortTrees x = Check.of("a 0?;b 0?;c {01}?;d ?1;");
        for (int tree = 0; tree < 3; tree++) {
            Check.due("length(" + tree + ") without changes", x.length(tree), 0);
            Check.due("consistency(" + tree + ") without changes", x.consistency(tree), 1.0f);
            Check.due("retention(" + tree + ") without changes", x.retention(tree), 1.0f);
        }
    }

    private static void indexes() {
        ShortTrees x = Check.of("a 00;b 01;c 11;d 10;");
        // Least is 2, most is 4; the lengths are 4, 3 and 3.
        Check.due("consistency(0)", x.consistency(0), 2.0f / 4.0f);
        Check.due("consistency(1)", x.consistency(1), 2.0f / 3.0f);
        Check.due("retention(0)", x.retention(0), 0.0f);
        Check.due("retention(1)", x.retention(1), 1.0f / 2.0f);
        ShortTrees alike = Check.of("a 0;b 0;c 0;d 1;");
        Check.due("consistency(2) of a lone change", alike.consistency(2), 1.0f);
        Check.due("retention(2), most and least alike", alike.retention(2), 1.0f);
    }

    private static void setsInCommon() {
        // Least is 1 (states 1 and 2 meet all) and most 2 (no state is in three sets).
        ShortTrees x = Check.of("a {02};b {01};c 1;d {23};");
        int[] lengths = {2, 2, 1};
        float[] consistencies = {0.5f, 0.5f, 1.0f};
        float[] retentions = {0.0f, 0.0f, 1.0f};
        for (int tree = 0; tree < 3; tree++) {
            Check.due("length(" + tree + ") of sets", x.length(tree), lengths[tree]);
            Check.due("consistency(" + tree + ") of sets", x.consistency(tree), consistencies[tree]);
            Check.due("retention(" + tree + ") of sets", x.retention(tree), retentions[tree]);
        }
        // Each two of the sets meet, but no state is in all: least is 1, most is 4 - 3.
        ShortTrees pairs = Check.of("a {01};b {12};c {02};d ?;");
        Check.due("length(0) of pairs", pairs.length(0), 1);
        Check.due("retention(0) of pairs", pairs.retention(0), 1.0f);
        // All four states stand alone: least is 3, most is 3.
        ShortTrees four = Check.of("a 0;b 1;c 2;d 3;");
        Check.due("consistency(0) of four states", four.consistency(0), 1.0f);
        Check.due("retention(0) of four states", four.retention(0), 1.0f);
    }

    private static void weights() {
        ShortTrees x = Check.of("a 00;b 01;c 11;d 10;");
        x.weigh(0, 5);
        // Least is 6, most is 12; tree 1 changes character 0 once and character 1 twice.
        Check.due("length(1) weighed", x.length(1), 7);
        Check.due("length(2) weighed", x.length(2), 11);
        Check.due("consistency(1) weighed", x.consistency(1), 6.0f / 7.0f);
        Check.due("retention(1) weighed", x.retention(1), 5.0f / 6.0f);
        Check.due("retention(2) weighed", x.retention(2), 1.0f / 6.0f);
    }
}
