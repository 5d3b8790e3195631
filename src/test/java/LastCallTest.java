import java.util.function.Function;

/** "An object is used for at most 512 calls after it has been made": the last one is still answered. */
public final class LastCallTest {
    private static final String TABLE = "a 0;b 0;c 1;d 1;e ?;";

    public static void main(String[] args) {
        Check.says("An object is used for at most 512 calls after it has been made");
        last("search()", x -> x.search(), 1);
        last("found()", x -> x.found(), 5);
        // Kind e is put in anywhere on tree 1 of four kinds: trees 5 .. 9.
        last("best(4)", x -> x.best(4), 9);
        last("share(12)", x -> x.share(12), 3.0f / 5.0f);
        last("length(14)", x -> x.length(14), 2);
        last("write(14)", x -> x.write(14), 16);
        last("common(0.5)", x -> x.common(0.5f), 16);
        last("weigh(0, 9)", x -> x.weigh(0, 9), 9);
        manyTexts();
        manyTables();
        Check.end();
    }

    /** Fills up with calls of the same kind, so that the last one is the 512th. */
    private static void last(String name, Function<ShortTrees, ?> call, Object want) {
        ShortTrees x = Check.of(TABLE);
        x.search();
        Object got = null;
        for (int made = TABLE.length() + 2; made < 512; made++) {
            got = call.apply(x);
        }
        Check.due(name + ", the 512th call", got, want);
    }

    private static void manyTexts() {
        ShortTrees x = new ShortTrees();
        for (int made = 0; made < 512; made++) {
            if (made % 161 == 160) {
                Check.due("table(), call " + made, x.table(), -101);
            } else {
                Check.due("type('a'), call " + made, x.type('a'), made % 161 + 1);
            }
        }
    }

    /** As many tables as the calls are good for: each is read, and the last like the first. */
    private static void manyTables() {
        ShortTrees x = new ShortTrees();
        String[] texts = {"a 0;b 1;c 2;", "a 33;b 3", "a ?;"};
        int[] answers = {3, -108, 1};
        int made = 0;
        for (int i = 0; made + texts[i % 3].length() + 1 <= 512; i++) {
            Check.due("table() number " + i, Check.table(x, texts[i % 3]), answers[i % 3]);
            made += texts[i % 3].length() + 1;
        }
    }
}
