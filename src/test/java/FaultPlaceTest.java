import java.util.Random;

/** Where a text is at fault: many texts with signs changed, put in and left out, held against patterns. */
public final class FaultPlaceTest {
    public static void main(String[] args) {
        Check.says("The text is AT FAULT at the place of the first character that can't stand there");
        Random random = new Random(7);
        RandomTexts texts = new RandomTexts(random);
        for (int run = 0; run < 4000; run++) {
            String text = texts.spoilt(texts.table(), random.nextInt(4));
            check(text.substring(0, Math.min(160, text.length())));
        }
        Check.end();
    }

    private static void check(String text) {
        int rows = (int) text.chars().filter(c -> c == ';').count();
        int want = PlainText.isTable(text) ? rows : -100 - PlainText.place(text);
        Check.due("table() of \"" + text + "\"", Check.table(new ShortTrees(), text), want);
    }
}
