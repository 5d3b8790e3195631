import java.util.EnumSet;
import java.util.Set;
import java.util.function.Function;

/** A call changes what its promise tells, and the rest stays as it is. */
public final class UnchangedTest {
    private static final Set<Twins.Part> ALL = EnumSet.allOf(Twins.Part.class);

    public static void main(String[] args) {
        Check.says("-100 - place when it is at fault (nothing but the text changes then).");
        tableAtFault();
        Check.says("What its promise tells alone is changed by a call.");
        questions();
        changesOfOnePart();
        Check.end();
    }

    private static void tableAtFault() {
        // What was typed before stands in front: "a 0{12}?;b 321;c".
        for (String more : new String[] {"", " ", " 12", " 123", " 123;e", " 123;d 000;e 111;f 222;g 333;h"}) {
            Twins.keeps("table() behind \"" + more + "\"", without(Twins.Part.TEXT), Twins::searched,
                    x -> atFault(Check.table(x, more)));
        }
        Function<ShortTrees, Integer> twice = x -> {
            x.table();
            return atFault(x.table());
        };
        Twins.keeps("table() of an empty text", without(Twins.Part.TEXT), Twins::searched, twice);
        Twins.keeps("table() of an empty text", without(Twins.Part.TEXT), Twins::twoKinds, twice);
        Twins.keeps("table() of an empty text", ALL, Twins::fresh, twice);
    }

    private static int atFault(int answer) {
        Check.due("table() is at fault", answer <= -100, true);
        return answer;
    }

    private static void questions() {
        asks("states", x -> x.states(4, 2));
        asks("trees", x -> x.trees());
        asks("changes", x -> x.changes(14, 2));
        asks("length", x -> x.length(14));
        asks("found", x -> x.found());
        asks("split", x -> x.split(14, 6));
        asks("distance", x -> x.distance(0, 14));
        asks("consistency", x -> x.consistency(14));
        asks("retention", x -> x.retention(14));
        asks("written", x -> x.written(0));
        asks("written of none", x -> x.written(24));
        Twins.keeps("best", ALL, Twins::searched, x -> x.best(0));
        Twins.keeps("share", ALL, Twins::searched, x -> x.share(6));
        Twins.keeps("search again", ALL, Twins::searched, x -> x.search());
    }

    private static void asks(String call, Function<ShortTrees, ?> body) {
        Twins.keeps(call, ALL, Twins::searched, body);
        Twins.keeps(call, ALL, Twins::unsearched, body);
    }

    private static void changesOfOnePart() {
        Twins.keeps("type", without(Twins.Part.TEXT), Twins::searched, x -> x.type('a'));
        Twins.keeps("search", without(Twins.Part.FINDS), Twins::unsearched, x -> x.search());
        Twins.keeps("write", without(Twins.Part.WRITING), Twins::searched, x -> x.write(14));
        Twins.keeps("common", without(Twins.Part.WRITING), Twins::searched, x -> x.common(0.5f));
        Set<Twins.Part> notOfWeights = EnumSet.of(Twins.Part.WRITING, Twins.Part.TABLE, Twins.Part.TEXT);
        Twins.keeps("weigh", notOfWeights, Twins::searched, x -> x.weigh(1, 9));
        Twins.keeps("table", EnumSet.of(Twins.Part.WRITING), Twins::searched, x -> Check.table(x, " 333;"));
    }

    private static Set<Twins.Part> without(Twins.Part part) {
        return EnumSet.complementOf(EnumSet.of(part));
    }
}
