import java.util.ArrayList;
import java.util.EnumSet;
import java.util.List;
import java.util.Set;
import java.util.concurrent.Callable;
import java.util.function.Consumer;
import java.util.function.Function;

/**
 * Two objects go the same way, and only one of them makes a call: where their answers differ afterwards,
 * the call has changed something.
 */
final class Twins {
    /** What an object has, in the order in which it can be asked without spoiling the rest. */
    enum Part { FINDS, WRITING, TABLE, WEIGHTS, TEXT }

    /** Five kinds with three characters: three trees of 15 are the best, with and without the weights. */
    private static final String FIVE = "a 00?;b 011;c 1{01}1;d 10{23};e 1?0;";
    /** A text that still wants something, so that a reading of it tells whether it is all there. */
    private static final String BEGUN = "a 0{12}?;b 321;c";
    private static final String REST = " 123;";

    private Twins() {
    }

    static void fresh(ShortTrees x) {
    }

    static void oneKind(ShortTrees x) {
        Check.table(x, "a 0{13}?;");
        x.weigh(1, 4);
        Check.type(x, BEGUN);
    }

    static void twoKinds(ShortTrees x) {
        Check.table(x, "a 012;b 30?;");
        x.weigh(0, 4);
        Check.type(x, BEGUN);
    }

    /** With a table, weights, a writing and a text, but without a search. */
    static void unsearched(ShortTrees x) {
        Check.table(x, FIVE);
        x.weigh(0, 2);
        x.weigh(2, 9);
        x.write(7);
        Check.type(x, BEGUN);
    }

    static void searched(ShortTrees x) {
        unsearched(x);
        x.search();
    }

    static void searchedWithFullText(ShortTrees x) {
        Check.table(x, FIVE);
        x.search();
        x.common(0.5f);
        Check.type(x, Samples.full());
    }

    /** The call throws what is due, once and again, and nothing is changed. */
    static void refused(String call, Class<? extends Exception> want, Consumer<ShortTrees> way,
            Function<ShortTrees, ?> body) {
        ShortTrees asked = after(way);
        Check.dueThrow(call, want, () -> body.apply(asked));
        Check.dueThrow(call + " again", want, () -> body.apply(asked));
        compare(call, asked, after(way), EnumSet.allOf(Part.class));
    }

    /** The call throws nothing and changes none of the parts. */
    static void keeps(String call, Set<Part> parts, Consumer<ShortTrees> way, Function<ShortTrees, ?> body) {
        ShortTrees asked = after(way);
        body.apply(asked);
        compare(call, asked, after(way), parts);
    }

    static ShortTrees after(Consumer<ShortTrees> way) {
        ShortTrees x = new ShortTrees();
        way.accept(x);
        return x;
    }

    private static void compare(String call, ShortTrees asked, ShortTrees twin, Set<Part> parts) {
        for (Part part : Part.values()) {
            List<String> got = picture(asked, part);
            List<String> want = picture(twin, part);
            for (int i = 0; i < want.size() && parts.contains(part); i++) {
                Check.due("after " + call + ": " + part + " " + i, got.get(i), want.get(i));
            }
        }
    }

    private static List<String> picture(ShortTrees x, Part part) {
        List<String> answers = new ArrayList<>();
        switch (part) {
            case FINDS -> finds(x, answers);
            case WRITING -> writing(x, answers);
            case TABLE -> table(x, answers);
            case WEIGHTS -> weights(x, answers);
            case TEXT -> text(x, answers);
        }
        return answers;
    }

    private static void note(List<String> answers, String call, Callable<?> body) {
        answers.add(call + " = " + Check.answer(body));
    }

    private static void finds(ShortTrees x, List<String> answers) {
        note(answers, "found()", () -> x.found());
        for (int i = 0; i < 16; i++) {
            int at = i;
            note(answers, "best(" + i + ")", () -> x.best(at));
        }
        for (int i = 0; i < 32; i++) {
            int set = i;
            note(answers, "share(" + i + ")", () -> x.share(set));
        }
    }

    private static void writing(ShortTrees x, List<String> answers) {
        for (int i = 0; i < 25; i++) {
            int at = i;
            note(answers, "written(" + i + ")", () -> x.written(at));
        }
    }

    private static void table(ShortTrees x, List<String> answers) {
        note(answers, "trees()", () -> x.trees());
        for (int i = 0; i < 6; i++) {
            for (int k = 0; k < 4; k++) {
                int kind = i;
                int character = k;
                note(answers, "states(" + i + ", " + k + ")", () -> x.states(kind, character));
            }
        }
        for (int i = 0; i < 16; i++) {
            int tree = i;
            note(answers, "changes(" + i + ", 1)", () -> x.changes(tree, 1));
        }
    }

    private static void weights(ShortTrees x, List<String> answers) {
        for (int i = 0; i < 4; i++) {
            int character = i;
            note(answers, "length(" + i + ")", () -> x.length(character));
            note(answers, "weigh(" + i + ", 1)", () -> x.weigh(character, 1));
        }
    }

    private static void text(ShortTrees x, List<String> answers) {
        for (char c : REST.toCharArray()) {
            note(answers, "type('" + c + "')", () -> x.type(c));
        }
        note(answers, "table()", () -> x.table());
        table(x, answers);
    }
}
