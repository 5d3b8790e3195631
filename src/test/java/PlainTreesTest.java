import java.util.ArrayList;
import java.util.List;
import java.util.Random;
import java.util.Set;
import java.util.TreeSet;

/** Promises 3 to 19 on many tables, compared with what the plainest way answers. */
public final class PlainTreesTest {
    private static final Random RANDOM = new Random(20261116);
    private static final float[] ABOVE = {0.5f, 0.6f, 2.0f / 3.0f, 0.75f, 0.9f, 1.0f};

    private final PlainTrees plain;
    private final String text;
    private final List<Integer> lengths = new ArrayList<>();
    private ShortTrees asked;
    private int calls;

    private PlainTreesTest(int kinds, int characters) {
        int[][] table = new int[kinds][characters];
        int[] weights = new int[characters];
        StringBuilder typed = new StringBuilder();
        int states = 2 + RANDOM.nextInt(3);
        int open = RANDOM.nextInt(6);
        for (int kind = 0; kind < kinds; kind++) {
            typed.append((char) ('a' + kind)).append(' ');
            for (int character = 0; character < characters; character++) {
                int room = 160 - typed.length() - (kinds - kind) * (characters + 3);
                table[kind][character] = entry(typed, states, room > 6 && RANDOM.nextInt(10) < open);
            }
            typed.append(';');
        }
        boolean weighed = RANDOM.nextBoolean();
        for (int character = 0; character < characters; character++) {
            weights[character] = weighed ? 1 + RANDOM.nextInt(9) : 1;
        }
        plain = new PlainTrees(table, weights);
        text = typed.toString();
        for (int tree = 0; tree < plain.trees.size(); tree++) {
            lengths.add(plain.length(tree));
        }
    }

    private static int entry(StringBuilder typed, int states, boolean wide) {
        if (!wide) {
            int state = RANDOM.nextInt(states);
            typed.append(state);
            return 1 << state;
        }
        if (RANDOM.nextInt(3) == 0) {
            typed.append('?');
            return 15;
        }
        int set = 1 + RANDOM.nextInt(15);
        typed.append('{');
        for (int state = 0; state < 4; state++) {
            if ((set >> state & 1) != 0) {
                typed.append(state);
            }
        }
        typed.append('}');
        return set;
    }

    /** The object to ask; a new one before the 512 calls are over. */
    private ShortTrees x() {
        if (asked == null || calls >= 300) {
            asked = new ShortTrees();
            Check.due("table() of " + text, Check.table(asked, text), plain.table.length);
            for (int character = 0; character < plain.weights.length; character++) {
                Check.due("weigh", asked.weigh(character, plain.weights[character]), 1);
            }
            calls = text.length() + 1 + plain.weights.length;
        }
        calls++;
        return asked;
    }

    private void states() {
        for (int kind = 0; kind < plain.table.length; kind++) {
            for (int character = 0; character < plain.weights.length; character++) {
                Check.due(text + " states(" + kind + ", " + character + ")", x().states(kind, character),
                        plain.table[kind][character]);
            }
        }
    }

    private void trees(int step) {
        Check.due(text + " trees()", x().trees(), plain.trees.size());
        for (int tree = RANDOM.nextInt(step); tree < plain.trees.size(); tree += 1 + RANDOM.nextInt(step)) {
            tree(tree);
        }
    }

    private void tree(int tree) {
        String of = text + " tree " + tree + ": ";
        for (int character = 0; character < plain.weights.length; character++) {
            Check.due(of + "changes " + character, x().changes(tree, character), plain.changes(tree, character));
        }
        int length = lengths.get(tree);
        int least = PlainTrees.least(plain.table, plain.weights);
        int most = PlainTrees.most(plain.table, plain.weights);
        Check.due(of + "length", x().length(tree), length);
        Check.due(of + "consistency", x().consistency(tree), length == 0 ? 1.0f : (float) least / length);
        Check.due(of + "retention", x().retention(tree),
                most == least ? 1.0f : (float) (most - length) / (most - least));
        Set<Integer> splits = plain.splits(tree);
        int set = RANDOM.nextInt(128);
        Check.due(of + "split " + set, x().split(tree, set), splits.contains(set));
        for (int split : splits) {
            Check.due(of + "split " + split, x().split(tree, split), true);
        }
        int other = RANDOM.nextInt(plain.trees.size());
        Set<Integer> differ = new TreeSet<>(splits);
        differ.removeAll(plain.splits(other));
        Check.due(of + "distance " + other, x().distance(tree, other), 2 * differ.size());
        calls += 24;
        Check.due(of + "write", Check.write(x(), tree), plain.written(tree));
    }

    private void search() {
        int least = Integer.MAX_VALUE;
        for (int length : lengths) {
            least = Math.min(least, length);
        }
        List<Integer> best = new ArrayList<>();
        for (int tree = 0; tree < lengths.size(); tree++) {
            if (lengths.get(tree) == least) {
                best.add(tree);
            }
        }
        asked = null;
        ShortTrees x = x();
        Check.due(text + " search()", x.search(), least);
        Check.due(text + " found()", x.found(), best.size());
        for (int i = 0; i < Math.min(100, best.size()); i++) {
            Check.due(text + " best(" + i + ")", x.best(i), best.get(i));
        }
        float[] shares = new float[128];
        for (int set = 0; set < 128; set++) {
            int count = 0;
            for (int tree : best) {
                count += plain.splits(tree).contains(set) ? 1 : 0;
            }
            shares[set] = (float) count / best.size();
        }
        asked = null;
        x = x();
        x.search();
        for (int set = 0; set < 128; set++) {
            Check.due(text + " share(" + set + ")", x.share(set), shares[set]);
        }
        asked = null;
        x = x();
        x.search();
        for (float above : ABOVE) {
            Set<Integer> splits = new TreeSet<>();
            for (int set = 0; set < 128; set++) {
                if (shares[set] > above || shares[set] == 1.0f) {
                    splits.add(set);
                }
            }
            Check.due(text + " common(" + above + ")", Check.common(x, above), plain.written(splits));
        }
    }

    public static void main(String[] args) {
        for (int run = 0; run < 200; run++) {
            int kinds = 3 + RANDOM.nextInt(4);
            int characters = 1 + RANDOM.nextInt(run % 10 == 0 ? 16 : 6);
            PlainTreesTest test = new PlainTreesTest(kinds, characters);
            test.states();
            test.trees(8);
            test.search();
        }
        for (int run = 0; run < 4; run++) {
            PlainTreesTest test = new PlainTreesTest(7, run == 0 ? 16 : 1 + RANDOM.nextInt(6));
            test.states();
            test.trees(20);
            test.search();
        }
        Check.end();
    }
}
