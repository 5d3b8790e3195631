import java.util.function.Consumer;
import java.util.function.Function;

/** "What throws changes nothing else. Of two exceptions the one that a call names first is thrown." */
public final class RefusedTest {
    private static final Class<IllegalStateException> STATE = IllegalStateException.class;
    private static final Class<IllegalArgumentException> ARGUMENT = IllegalArgumentException.class;
    private static final Class<IndexOutOfBoundsException> INDEX = IndexOutOfBoundsException.class;

    public static void main(String[] args) {
        Check.says("What throws changes nothing else.");
        type();
        states();
        weigh();
        changes();
        oneTree();
        search();
        best();
        share();
        distance();
        common();
        Check.says("Of two exceptions the one that a call names first is thrown.");
        twoExceptions();
        Check.end();
    }

    private static void type() {
        for (char c : new char[] {'a', ';', ' ', (char) 0, (char) 65535}) {
            Twins.refused("type((char) " + (int) c + ")", STATE, Twins::searchedWithFullText, x -> x.type(c));
        }
    }

    private static void states() {
        inEveryTable("states(-1, 0)", INDEX, x -> x.states(-1, 0));
        inEveryTable("states(5, 0)", INDEX, x -> x.states(5, 0));
        inEveryTable("states(0, -1)", INDEX, x -> x.states(0, -1));
        inEveryTable("states(0, 3)", INDEX, x -> x.states(0, 3));
        inEveryTable("states(5, 3)", INDEX, x -> x.states(5, 3));
        Twins.refused("states(0, 0)", INDEX, Twins::fresh, x -> x.states(0, 0));
        Twins.refused("states(1, 0)", INDEX, Twins::oneKind, x -> x.states(1, 0));
        Twins.refused("states(2, 0)", INDEX, Twins::twoKinds, x -> x.states(2, 0));
    }

    private static void weigh() {
        inEveryTable("weigh(-1, 5)", INDEX, x -> x.weigh(-1, 5));
        inEveryTable("weigh(3, 5)", INDEX, x -> x.weigh(3, 5));
        Twins.refused("weigh(0, 5)", INDEX, Twins::fresh, x -> x.weigh(0, 5));
        for (int weight : new int[] {0, 10}) {
            String call = "weigh(0, " + weight + ")";
            Twins.refused(call, ARGUMENT, Twins::oneKind, x -> x.weigh(0, weight));
            Twins.refused(call, ARGUMENT, Twins::twoKinds, x -> x.weigh(0, weight));
            Twins.refused(call, ARGUMENT, Twins::unsearched, x -> x.weigh(0, weight));
            Twins.refused(call, ARGUMENT, Twins::searched, x -> x.weigh(0, weight));
        }
    }

    private static void changes() {
        inEveryTable("changes(-1, 0)", INDEX, x -> x.changes(-1, 0));
        inEveryTable("changes(15, 0)", INDEX, x -> x.changes(15, 0));
        inEveryTable("changes(0, -1)", INDEX, x -> x.changes(0, -1));
        inEveryTable("changes(0, 3)", INDEX, x -> x.changes(0, 3));
        inEveryTable("changes(15, 3)", INDEX, x -> x.changes(15, 3));
        withoutTrees("changes(0, 0)", INDEX, x -> x.changes(0, 0));
    }

    private static void oneTree() {
        for (int tree : new int[] {-1, 15}) {
            inEveryTable("length(" + tree + ")", INDEX, x -> x.length(tree));
            inEveryTable("split(" + tree + ", 6)", INDEX, x -> x.split(tree, 6));
            inEveryTable("consistency(" + tree + ")", INDEX, x -> x.consistency(tree));
            inEveryTable("retention(" + tree + ")", INDEX, x -> x.retention(tree));
            inEveryTable("write(" + tree + ")", INDEX, x -> x.write(tree));
        }
        withoutTrees("length(0)", INDEX, x -> x.length(0));
        withoutTrees("split(0, 6)", INDEX, x -> x.split(0, 6));
        withoutTrees("consistency(0)", INDEX, x -> x.consistency(0));
        withoutTrees("retention(0)", INDEX, x -> x.retention(0));
        withoutTrees("write(0)", INDEX, x -> x.write(0));
    }

    private static void search() {
        withoutTrees("search()", STATE, x -> x.search());
        // A writing of an earlier table, of which nothing is found any more.
        Twins.refused("search()", STATE, x -> {
            Twins.searched(x);
            x.table();
            Check.table(x, "a 0;b 1;");
            Check.type(x, "a 1");
        }, x -> x.search());
    }

    private static void best() {
        inEveryTable("best(-1)", INDEX, x -> x.best(-1));
        inEveryTable("best(15)", INDEX, x -> x.best(15));
        Twins.refused("best(found())", INDEX, Twins::searched, x -> x.best(x.found()));
        Twins.refused("best(0)", INDEX, Twins::unsearched, x -> x.best(0));
        withoutTrees("best(0)", INDEX, x -> x.best(0));
    }

    private static void share() {
        for (int set : new int[] {-1, 0, 6, 14, 128}) {
            Twins.refused("share(" + set + ")", STATE, Twins::unsearched, x -> x.share(set));
            withoutTrees("share(" + set + ")", STATE, x -> x.share(set));
        }
    }

    private static void distance() {
        int[][] wrong = {{-1, 0}, {15, 0}, {0, -1}, {0, 15}, {-1, -1}, {15, 15}};
        for (int[] pair : wrong) {
            String call = "distance(" + pair[0] + ", " + pair[1] + ")";
            inEveryTable(call, INDEX, x -> x.distance(pair[0], pair[1]));
        }
        withoutTrees("distance(0, 0)", INDEX, x -> x.distance(0, 0));
    }

    private static void common() {
        for (float above : new float[] {Math.nextDown(0.5f), Math.nextUp(1.0f)}) {
            Twins.refused("common(" + above + ")", ARGUMENT, Twins::searched, x -> x.common(above));
            Twins.refused("common(" + above + ")", ARGUMENT, Twins::searchedWithFullText, x -> x.common(above));
        }
        for (float above : new float[] {0.5f, 1.0f}) {
            Twins.refused("common(" + above + ")", STATE, Twins::unsearched, x -> x.common(above));
            withoutTrees("common(" + above + ")", STATE, x -> x.common(above));
        }
    }

    private static void twoExceptions() {
        for (int weight : new int[] {0, 10}) {
            inEveryTable("weigh(-1, " + weight + ")", INDEX, x -> x.weigh(-1, weight));
            inEveryTable("weigh(3, " + weight + ")", INDEX, x -> x.weigh(3, weight));
            Twins.refused("weigh(0, " + weight + ")", INDEX, Twins::fresh, x -> x.weigh(0, weight));
        }
        for (float above : new float[] {Math.nextDown(0.5f), Math.nextUp(1.0f), Float.NaN}) {
            Twins.refused("common(" + above + ")", STATE, Twins::unsearched, x -> x.common(above));
            withoutTrees("common(" + above + ")", STATE, x -> x.common(above));
        }
    }

    private static void inEveryTable(String call, Class<? extends Exception> want, Function<ShortTrees, ?> body) {
        Twins.refused(call, want, Twins::searched, body);
        Twins.refused(call, want, Twins::searchedWithFullText, body);
        Twins.refused(call, want, Twins::unsearched, body);
        withoutTrees(call, want, body);
    }

    private static void withoutTrees(String call, Class<? extends Exception> want, Function<ShortTrees, ?> body) {
        Consumer<ShortTrees> fresh = Twins::fresh;
        Twins.refused(call, want, fresh, body);
        Twins.refused(call, want, Twins::oneKind, body);
        Twins.refused(call, want, Twins::twoKinds, body);
    }
}
