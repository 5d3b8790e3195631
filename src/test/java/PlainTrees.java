import java.util.ArrayList;
import java.util.Collections;
import java.util.Comparator;
import java.util.List;
import java.util.Set;
import java.util.TreeSet;

/** What the document says, done in the slowest and plainest way, to compare with. */
final class PlainTrees {
    final int[][] table;
    final int[] weights;
    final List<Node> trees = new ArrayList<>();

    /** A node with what hangs at it; a leaf has a kind, an inner node the number it came with. */
    static final class Node {
        final int kind;
        final int number;
        final List<Node> parts = new ArrayList<>();

        Node(int kind, int number) {
            this.kind = kind;
            this.number = number;
        }

        Node copy() {
            Node same = new Node(kind, number);
            for (Node part : parts) {
                same.parts.add(part.copy());
            }
            return same;
        }

        int leaves() {
            int set = kind >= 0 ? 1 << kind : 0;
            for (Node part : parts) {
                set |= part.leaves();
            }
            return set;
        }

        int leastKind() {
            return Integer.numberOfTrailingZeros(leaves());
        }

        void collect(List<Node> into) {
            into.add(this);
            for (Node part : parts) {
                part.collect(into);
            }
        }

        String inside() {
            List<Node> sorted = new ArrayList<>(parts);
            sorted.sort(Comparator.comparingInt(Node::leastKind));
            List<String> texts = new ArrayList<>();
            for (Node part : sorted) {
                texts.add(part.kind >= 0 ? "" + (char) ('a' + part.kind) : "(" + part.inside() + ")");
            }
            return String.join(",", texts);
        }
    }

    PlainTrees(int[][] table, int[] weights) {
        this.table = table;
        this.weights = weights;
        if (table.length >= 3) {
            Node root = new Node(0, -1);
            root.parts.add(new Node(1, -1));
            growAll(root, 2);
        }
    }

    /** The choices go round like the digits of a number, the last kind's fastest: so trees come by number. */
    private void growAll(Node root, int kind) {
        if (kind == table.length) {
            trees.add(root);
            return;
        }
        for (int leaf = 1; leaf < kind; leaf++) {
            growAll(with(root, kind, leaf, -1), kind + 1);
        }
        for (int inner = 2; inner < kind; inner++) {
            growAll(with(root, kind, -1, inner), kind + 1);
        }
    }

    private static Node with(Node root, int kind, int leaf, int inner) {
        Node grown = root.copy();
        List<Node> all = new ArrayList<>();
        grown.collect(all);
        for (Node holder : all) {
            for (int i = 0; i < holder.parts.size(); i++) {
                Node part = holder.parts.get(i);
                if (part.kind == leaf && part.number == inner) {
                    Node fresh = new Node(-1, kind);
                    fresh.parts.add(part);
                    fresh.parts.add(new Node(kind, -1));
                    holder.parts.set(i, fresh);
                    return grown;
                }
            }
        }
        throw new IllegalStateException("nothing hangs there");
    }

    /** Tries every state at every inner node. */
    int changes(int tree, int character) {
        List<Node> all = new ArrayList<>();
        trees.get(tree).collect(all);
        int inner = table.length - 2;
        int fewest = Integer.MAX_VALUE;
        for (int states = 0; states < 1 << (2 * inner); states++) {
            int count = 0;
            for (Node holder : all) {
                for (Node part : holder.parts) {
                    if ((allowed(holder, states, character) & allowed(part, states, character)) == 0) {
                        count++;
                    }
                }
            }
            fewest = Math.min(fewest, count);
        }
        return fewest;
    }

    /** A leaf has only one edge, so it takes whatever suits its one neighbour out of its set. */
    private int allowed(Node node, int states, int character) {
        return node.kind >= 0 ? table[node.kind][character] : 1 << (states >> (2 * (node.number - 2)) & 3);
    }

    int length(int tree) {
        int sum = 0;
        for (int character = 0; character < weights.length; character++) {
            sum += weights[character] * changes(tree, character);
        }
        return sum;
    }

    static int least(int[][] table, int[] weights) {
        int sum = 0;
        for (int character = 0; character < weights.length; character++) {
            int fewest = 4;
            for (int set = 1; set < 16; set++) {
                boolean all = true;
                for (int[] row : table) {
                    all &= (row[character] & set) != 0;
                }
                fewest = all ? Math.min(fewest, Integer.bitCount(set)) : fewest;
            }
            sum += weights[character] * (fewest - 1);
        }
        return sum;
    }

    static int most(int[][] table, int[] weights) {
        int sum = 0;
        for (int character = 0; character < weights.length; character++) {
            int[] counts = new int[4];
            for (int[] row : table) {
                for (int state = 0; state < 4; state++) {
                    counts[state] += row[character] >> state & 1;
                }
            }
            int greatest = Math.max(Math.max(counts[0], counts[1]), Math.max(counts[2], counts[3]));
            sum += weights[character] * (table.length - greatest);
        }
        return sum;
    }

    Set<Integer> splits(int tree) {
        Set<Integer> sets = new TreeSet<>();
        List<Node> all = new ArrayList<>();
        trees.get(tree).collect(all);
        for (Node node : all) {
            int set = node.leaves();
            if ((set & 1) == 0 && Integer.bitCount(set) >= 2 && Integer.bitCount(set) < table.length - 1) {
                sets.add(set);
            }
        }
        return sets;
    }

    String written(int tree) {
        return "(a," + trees.get(tree).parts.get(0).inside() + ");";
    }

    /** Begins with all kinds side by side and puts together what each split holds, the widest first. */
    String written(Set<Integer> splits) {
        Node top = new Node(-1, 0);
        for (int kind = 1; kind < table.length; kind++) {
            top.parts.add(new Node(kind, -1));
        }
        List<Integer> widestFirst = new ArrayList<>(splits);
        widestFirst.sort(Collections.reverseOrder(Comparator.comparingInt(Integer::bitCount)));
        for (int split : widestFirst) {
            Node holder = top;
            for (int i = 0; i < holder.parts.size(); i++) {
                Node part = holder.parts.get(i);
                if ((part.leaves() & split) == split) {
                    holder = part;
                    i = -1;
                }
            }
            Node group = new Node(-1, 0);
            for (Node part : new ArrayList<>(holder.parts)) {
                if ((part.leaves() & split) != 0) {
                    holder.parts.remove(part);
                    group.parts.add(part);
                }
            }
            holder.parts.add(group);
        }
        return "(a," + top.inside() + ");";
    }
}
