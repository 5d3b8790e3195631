import java.util.ArrayList;
import java.util.Arrays;
import java.util.HashMap;
import java.util.List;
import java.util.Map;
import java.util.Set;
import java.util.TreeSet;

/** The whole face, done in the plainest way: what an object of ShortTrees must answer, call by call. */
final class PlainObject {
    /** What was reckoned for a table is used again by every object, for it takes long. */
    private static final Map<String, Known> KNOWN = new HashMap<>();

    private String text = "";
    private Known known = new Known(new int[0][0]);
    private int[] weights = new int[0];
    private final List<Integer> best = new ArrayList<>();
    private String writing = "";

    /** A table and what holds for it whatever the weights are. */
    private static final class Known {
        final int[][] sets;
        final PlainTrees trees;
        final Map<Integer, Integer> changes = new HashMap<>();
        final Map<Integer, Set<Integer>> splits = new HashMap<>();

        Known(int[][] sets) {
            this.sets = sets;
            trees = new PlainTrees(sets, new int[0]);
        }

        int changes(int tree, int character) {
            return changes.computeIfAbsent(16 * tree + character, key -> trees.changes(tree, character));
        }

        Set<Integer> splits(int tree) {
            return splits.computeIfAbsent(tree, key -> trees.splits(tree));
        }
    }

    int type(char c) {
        if (text.length() == 160) {
            throw new IllegalStateException();
        }
        text += c;
        return text.length();
    }

    int table() {
        String whole = text;
        text = "";
        if (!PlainText.isTable(whole)) {
            return -100 - PlainText.place(whole);
        }
        known = KNOWN.computeIfAbsent(whole, key -> new Known(PlainText.sets(key)));
        weights = new int[known.sets[0].length];
        Arrays.fill(weights, 1);
        best.clear();
        return known.sets.length;
    }

    int states(int kind, int character) {
        index(kind, known.sets.length);
        index(character, weights.length);
        return known.sets[kind][character];
    }

    int weigh(int character, int weight) {
        index(character, weights.length);
        if (weight < 1 || weight > 9) {
            throw new IllegalArgumentException();
        }
        int before = weights[character];
        weights[character] = weight;
        best.clear();
        return before;
    }

    int trees() {
        return known.trees.trees.size();
    }

    int changes(int tree, int character) {
        index(tree, trees());
        index(character, weights.length);
        return known.changes(tree, character);
    }

    int length(int tree) {
        index(tree, trees());
        int sum = 0;
        for (int character = 0; character < weights.length; character++) {
            sum += weights[character] * known.changes(tree, character);
        }
        return sum;
    }

    int search() {
        if (known.sets.length < 3) {
            throw new IllegalStateException();
        }
        int least = Integer.MAX_VALUE;
        for (int tree = 0; tree < trees(); tree++) {
            least = Math.min(least, length(tree));
        }
        best.clear();
        for (int tree = 0; tree < trees(); tree++) {
            if (length(tree) == least) {
                best.add(tree);
            }
        }
        return least;
    }

    int found() {
        return best.size();
    }

    int best(int i) {
        index(i, best.size());
        return best.get(i);
    }

    boolean split(int tree, int set) {
        index(tree, trees());
        return known.splits(tree).contains(set);
    }

    float share(int set) {
        if (best.isEmpty()) {
            throw new IllegalStateException();
        }
        int count = 0;
        for (int tree : best) {
            count += known.splits(tree).contains(set) ? 1 : 0;
        }
        return (float) count / best.size();
    }

    int distance(int one, int other) {
        index(one, trees());
        index(other, trees());
        Set<Integer> either = new TreeSet<>(known.splits(one));
        either.addAll(known.splits(other));
        Set<Integer> both = new TreeSet<>(known.splits(one));
        both.retainAll(known.splits(other));
        return either.size() - both.size();
    }

    float consistency(int tree) {
        int length = length(tree);
        return length == 0 ? 1.0f : (float) PlainTrees.least(known.sets, weights) / length;
    }

    float retention(int tree) {
        int length = length(tree);
        int least = PlainTrees.least(known.sets, weights);
        int most = PlainTrees.most(known.sets, weights);
        return most == least ? 1.0f : (float) (most - length) / (most - least);
    }

    int write(int tree) {
        index(tree, trees());
        writing = known.trees.written(tree);
        return writing.length();
    }

    int common(float above) {
        if (best.isEmpty()) {
            throw new IllegalStateException();
        }
        if (Float.isNaN(above) || above < 0.5f || above > 1.0f) {
            throw new IllegalArgumentException();
        }
        Set<Integer> splits = new TreeSet<>();
        for (int set = 0; set < 128; set++) {
            float part = share(set);
            if (part > above || part == 1.0f) {
                splits.add(set);
            }
        }
        writing = known.trees.written(splits);
        return writing.length();
    }

    char written(int i) {
        return i >= 0 && i < writing.length() ? writing.charAt(i) : 0;
    }

    private static void index(int i, int size) {
        if (i < 0 || i >= size) {
            throw new IndexOutOfBoundsException();
        }
    }
}
