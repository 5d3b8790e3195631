/** The example of README.md answers what is told there. */
public final class ReadmeTest {
    public static void main(String[] args) {
        ShortTrees x = new ShortTrees();
        for (char c : "a 00;b 00;c 10;d 10;e ?1;f ?1;".toCharArray()) {
            x.type(c);
        }
        Check.due("table()", x.table(), 6);
        Check.due("weigh(0, 3)", x.weigh(0, 3), 1);
        Check.due("search()", x.search(), 4);
        Check.due("found()", x.found(), 5);
        Check.due("best(0)", x.best(0), 38);
        Check.due("share(0b110000)", x.share(0b110000), 1.0f);
        int size = x.common(0.5f);
        Check.due("written by common(0.5)", Check.written(x, size), "(a,b,((c,d),(e,f)));");
        Check.end();
    }
}
