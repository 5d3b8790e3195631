import java.util.concurrent.Callable;

/** Compares answers with those that are due, and ends a test's run. */
final class Check {
    private static int wrong = 0;
    private static String sentence = "";

    private Check() {
    }

    /** The document's sentence that the checks from here on hold to: it is told with an answer that is wrong. */
    static void says(String words) {
        sentence = "\"" + words + "\" ";
    }

    static void due(String call, Object got, Object want) {
        if (!got.equals(want)) {
            wrong++;
            System.out.println(sentence + call + " answered " + got + ", due is " + want);
        }
    }

    static void dueThrow(String call, Class<? extends Exception> want, Callable<?> body) {
        due(call, answer(body), want.getName());
    }

    /** What a call answers, as text: the exception's name if it throws. */
    static String answer(Callable<?> body) {
        try {
            return String.valueOf(body.call());
        } catch (Exception e) {
            return e.getClass().getName();
        }
    }

    static void end() {
        if (wrong > 0) {
            System.out.println(wrong + " answers are wrong");
            System.exit(1);
        }
    }

    static void type(ShortTrees x, String text) {
        for (int i = 0; i < text.length(); i++) {
            x.type(text.charAt(i));
        }
    }

    static int table(ShortTrees x, String text) {
        type(x, text);
        return x.table();
    }

    /** A new object with a table. */
    static ShortTrees of(String text) {
        ShortTrees x = new ShortTrees();
        if (table(x, text) < 0) {
            throw new IllegalArgumentException(text);
        }
        return x;
    }

    static String written(ShortTrees x, int size) {
        StringBuilder all = new StringBuilder();
        for (int i = 0; i < size; i++) {
            all.append(x.written(i));
        }
        return all.toString();
    }

    static String write(ShortTrees x, int tree) {
        return written(x, x.write(tree));
    }

    static String common(ShortTrees x, float above) {
        return written(x, x.common(above));
    }
}
