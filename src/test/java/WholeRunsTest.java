import java.util.ArrayList;
import java.util.List;
import java.util.Random;
import java.util.function.Function;

/** Whole runs of 512 calls in any order, with right and wrong arguments, each held against PlainObject. */
public final class WholeRunsTest {
    private static final int CALLS = 512;
    private static final Random RANDOM = new Random(512);
    private static final float[] ABOVE = {0.5f, 0.55f, 0.6f, 2.0f / 3.0f, 0.75f, 0.9f, Math.nextDown(1.0f), 1.0f,
        Math.nextDown(0.5f), Math.nextUp(1.0f), 0.0f, -0.75f, Float.NaN, Float.POSITIVE_INFINITY};

    private final ShortTrees asked = new ShortTrees();
    private final PlainObject plain = new PlainObject();
    private final List<String> lately = new ArrayList<>();
    private int made;

    public static void main(String[] args) {
        List<String> tables = tables();
        List<String> spoilt = spoilt(tables);
        for (int run = 0; run < 400; run++) {
            new WholeRunsTest().walk(tables, spoilt);
        }
        Check.end();
    }

    /** The same tables come again and again, so that the plain way need not reckon every tree anew. */
    private static List<String> tables() {
        RandomTexts random = new RandomTexts(RANDOM);
        List<String> tables = new ArrayList<>();
        for (int kinds = 1; kinds <= 7; kinds++) {
            int count = kinds < 3 ? 2 : kinds < 7 ? 10 : 3;
            for (int i = 0; i < count; i++) {
                tables.add(random.table(kinds, i == 0 ? 16 : 1 + RANDOM.nextInt(5)));
            }
            tables.add(Samples.alike(kinds, "?"));
        }
        return tables;
    }

    /** Each table with a sign that can't stand there, mostly, and texts that fill all the room or more. */
    private static List<String> spoilt(List<String> tables) {
        RandomTexts random = new RandomTexts(RANDOM);
        List<String> texts = new ArrayList<>();
        for (String table : tables) {
            texts.add(random.spoilt(table, 1));
        }
        texts.add(Samples.full());
        texts.add(Samples.full() + "f");
        return texts;
    }

    private void walk(List<String> tables, List<String> spoilt) {
        while (made < CALLS) {
            List<String> texts = RANDOM.nextInt(4) > 0 ? tables : spoilt;
            giveTable(texts.get(RANDOM.nextInt(texts.size())));
            int questions = RANDOM.nextInt(60);
            for (int i = 0; i < questions; i++) {
                ask();
            }
        }
    }

    private void giveTable(String text) {
        for (char c : text.toCharArray()) {
            both("type('" + c + "')", x -> x.type(c), p -> p.type(c));
            if (RANDOM.nextInt(40) == 0) {
                ask();
            }
        }
        both("table()", x -> x.table(), p -> p.table());
    }

    private void ask() {
        switch (RANDOM.nextInt(18)) {
            case 0, 1 -> askOfTable();
            case 2, 3 -> both("search()", x -> x.search(), p -> p.search());
            case 4, 5, 6, 7 -> askOfFinds();
            case 8, 9, 10, 11, 12 -> askOfTree(tree());
            case 13, 14, 15 -> writeAndRead();
            case 16 -> weigh(among(5), among(11));
            default -> both("found()", x -> x.found(), p -> p.found());
        }
    }

    private void askOfTable() {
        int kind = among(8);
        int character = among(RANDOM.nextBoolean() ? 17 : 3);
        both("trees()", x -> x.trees(), p -> p.trees());
        both("states(" + kind + ", " + character + ")", x -> x.states(kind, character),
                p -> p.states(kind, character));
        if (RANDOM.nextInt(40) == 0) {
            both("table()", x -> x.table(), p -> p.table());
        }
    }

    private void weigh(int character, int weight) {
        both("weigh(" + character + ", " + weight + ")", x -> x.weigh(character, weight),
                p -> p.weigh(character, weight));
    }

    private void askOfFinds() {
        int i = among(plain.found() + 1);
        int set = set();
        both("best(" + i + ")", x -> x.best(i), p -> p.best(i));
        both("share(" + set + ")", x -> x.share(set), p -> p.share(set));
    }

    private void askOfTree(int tree) {
        int other = tree();
        int character = among(5);
        int set = set();
        switch (RANDOM.nextInt(6)) {
            case 0 -> both("changes(" + tree + ", " + character + ")", x -> x.changes(tree, character),
                    p -> p.changes(tree, character));
            case 1 -> both("length(" + tree + ")", x -> x.length(tree), p -> p.length(tree));
            case 2 -> both("split(" + tree + ", " + set + ")", x -> x.split(tree, set), p -> p.split(tree, set));
            case 3 -> both("distance(" + tree + ", " + other + ")", x -> x.distance(tree, other),
                    p -> p.distance(tree, other));
            case 4 -> both("consistency(" + tree + ")", x -> x.consistency(tree), p -> p.consistency(tree));
            default -> both("retention(" + tree + ")", x -> x.retention(tree), p -> p.retention(tree));
        }
    }

    private void writeAndRead() {
        int tree = tree();
        float above = ABOVE[RANDOM.nextInt(ABOVE.length)];
        if (RANDOM.nextInt(3) == 0) {
            both("write(" + tree + ")", x -> x.write(tree), p -> p.write(tree));
        } else {
            both("common(" + above + ")", x -> x.common(above), p -> p.common(above));
        }
        int reads = RANDOM.nextInt(8) == 0 ? 25 : 1;
        for (int k = 0; k < reads; k++) {
            int i = reads == 1 ? among(25) : k;
            both("written(" + i + ")", x -> x.written(i), p -> p.written(i));
        }
    }

    private static int among(int size) {
        int[] far = Samples.FAR;
        return RANDOM.nextInt(12) == 0 ? far[RANDOM.nextInt(far.length)] : RANDOM.nextInt(size);
    }

    /** Mostly one without kind 0, for the others are no splits. */
    private static int set() {
        return RANDOM.nextInt(4) == 0 ? among(128) : 2 * RANDOM.nextInt(4 << RANDOM.nextInt(5));
    }

    private int tree() {
        return among(plain.trees() + 1);
    }

    /** The same call on both: an answer that differs is told with the calls that went before. */
    private void both(String name, Function<ShortTrees, ?> call, Function<PlainObject, ?> plainCall) {
        if (made == CALLS) {
            return;
        }
        made++;
        lately.add(name);
        String got = Check.answer(() -> call.apply(asked));
        String want = Check.answer(() -> plainCall.apply(plain));
        if (!got.equals(want)) {
            Check.due("call " + made + " of " + String.join(" ", lately), got, want);
        }
    }
}
