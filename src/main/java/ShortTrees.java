import java.util.Arrays;

/**
 * Finds all trees that explain a table of kinds and their characters with the fewest changes:
 * reads the table from text, reckons how many changes a tree needs, searches among all trees,
 * says what the best ones have in common, and writes them down.
 */
public final class ShortTrees {
    private static final int KINDS = 7;
    private static final int CHARACTERS = 16;
    private static final int STATES = 4;
    private static final int ALL_STATES = 15;
    private static final int TEXT = 160;
    private static final int HIGHEST_WEIGHT = 9;
    private static final int FAULT = -100;
    /** With seven kinds there are 1 * 3 * 5 * 7 * 9. */
    private static final int TREES = 945;
    private static final int SETS = 128;
    /** The longest writing, a tree of seven kinds, has 24 characters. */
    private static final int PAGE = 24;
    /** The lowest bit of every character in a packed row. */
    private static final long LOWEST = 0x1111111111111111L;

    private final Text text = new Text();
    private final Tree grown = new Tree();
    private final Tree alsoGrown = new Tree();
    private final Finds finds = new Finds();
    private final Page page = new Page();
    private Table current = new Table();
    private Table spare = new Table();

    public ShortTrees() {
    }

    public int type(char c) throws IllegalStateException {
        if (text.isFull()) {
            throw new IllegalStateException("the text is full");
        }
        return text.add(c);
    }

    public int table() {
        boolean whole = text.readInto(spare);
        int place = text.place();
        text.empty();
        if (!whole) {
            return FAULT - place;
        }
        Table old = current;
        current = spare;
        spare = old;
        finds.forget();
        return current.kinds;
    }

    public int states(int kind, int character) throws IndexOutOfBoundsException {
        if (kind < 0 || kind >= current.kinds || !current.hasCharacter(character)) {
            throw new IndexOutOfBoundsException("no such kind or character");
        }
        return current.setOf(kind, character);
    }

    public int weigh(int character, int weight) throws IndexOutOfBoundsException, IllegalArgumentException {
        requireCharacter(character);
        if (weight < 1 || weight > HIGHEST_WEIGHT) {
            throw new IllegalArgumentException("a weight is 1 to 9");
        }
        int before = current.weights[character];
        current.weights[character] = weight;
        finds.forget();
        return before;
    }

    public int trees() {
        return current.treeCount();
    }

    public int changes(int tree, int character) throws IndexOutOfBoundsException {
        requireTree(tree);
        requireCharacter(character);
        grown.grow(tree, current.kinds);
        return current.bitsOf(grown.packedChanges(current), character);
    }

    public int length(int tree) throws IndexOutOfBoundsException {
        requireTree(tree);
        return grown.growAndMeasure(tree, current);
    }

    public int search() throws IllegalStateException {
        if (current.treeCount() == 0) {
            throw new IllegalStateException("fewer than three kinds");
        }
        return finds.gather(current, grown);
    }

    public int found() {
        return finds.count;
    }

    public int best(int i) throws IndexOutOfBoundsException {
        if (i < 0 || i >= finds.count) {
            throw new IndexOutOfBoundsException("no such tree was found");
        }
        return finds.numbers[i];
    }

    public boolean split(int tree, int set) throws IndexOutOfBoundsException {
        requireTree(tree);
        grown.grow(tree, current.kinds);
        return grown.hasSplit(set);
    }

    public float share(int set) throws IllegalStateException {
        requireFinds();
        return finds.shareOf(set);
    }

    public int distance(int one, int other) throws IndexOutOfBoundsException {
        requireTree(one);
        requireTree(other);
        grown.grow(one, current.kinds);
        alsoGrown.grow(other, current.kinds);
        return grown.splitsNotIn(alsoGrown) + alsoGrown.splitsNotIn(grown);
    }

    public float consistency(int tree) throws IndexOutOfBoundsException {
        requireTree(tree);
        int measured = grown.growAndMeasure(tree, current);
        if (measured == 0) {
            return 1.0f;
        }
        return (float) current.least() / (float) measured;
    }

    public float retention(int tree) throws IndexOutOfBoundsException {
        requireTree(tree);
        int measured = grown.growAndMeasure(tree, current);
        int most = current.most();
        int range = most - current.least();
        if (range == 0) {
            return 1.0f;
        }
        return (float) (most - measured) / (float) range;
    }

    public int write(int tree) throws IndexOutOfBoundsException {
        requireTree(tree);
        grown.grow(tree, current.kinds);
        page.forgetGroups();
        for (int i = 0; i < grown.splitCount(); i++) {
            page.addGroup(grown.splitAt(i));
        }
        return page.fill(current.kinds);
    }

    public int common(float above) throws IllegalStateException, IllegalArgumentException {
        requireFinds();
        // Asked this way round so that NaN is refused too.
        if (!(above >= 0.5f && above <= 1.0f)) {
            throw new IllegalArgumentException("above is 0.5 to 1");
        }
        page.forgetGroups();
        for (int set = 0; set < SETS; set++) {
            float part = finds.shareOf(set);
            if (part > above || part == 1.0f) {
                page.addGroup(set);
            }
        }
        return page.fill(current.kinds);
    }

    public char written(int i) {
        return page.signAt(i);
    }

    private void requireTree(int number) {
        if (number < 0 || number >= current.treeCount()) {
            throw new IndexOutOfBoundsException("no such tree");
        }
    }

    private void requireCharacter(int character) {
        if (!current.hasCharacter(character)) {
            throw new IndexOutOfBoundsException("no such character");
        }
    }

    private void requireFinds() {
        if (finds.count == 0) {
            throw new IllegalStateException("nothing is found");
        }
    }

    /** What was typed, and how it is read as a table. */
    private static final class Text {
        private final char[] typed = new char[TEXT];
        private int size;
        private int at;

        boolean isFull() {
            return size >= TEXT;
        }

        int add(char c) {
            if (size < TEXT) {
                typed[size] = c;
                size++;
            }
            return size;
        }

        void empty() {
            size = 0;
        }

        /** How far the last reading came: where the text is at fault, if it is. */
        int place() {
            return at;
        }

        boolean readInto(Table table) {
            at = 0;
            table.clear();
            for (int kind = 0; kind < KINDS; kind++) {
                if (!takeRow(kind, table)) {
                    return false;
                }
                table.kinds = kind + 1;
                if (at == size) {
                    return true;
                }
            }
            return false;
        }

        private boolean takeRow(int kind, Table table) {
            if (!take((char) ('a' + kind)) || !take(' ')) {
                return false;
            }
            int most = kind == 0 ? CHARACTERS : table.characters;
            int entries = 0;
            while (entries < most) {
                // Only the first row may end where it likes: the others have as many entries.
                if (kind == 0 && entries > 0 && isHere(';')) {
                    break;
                }
                int set = takeEntry();
                if (set == 0) {
                    return false;
                }
                table.put(kind, entries, set);
                entries++;
            }
            table.characters = entries;
            return take(';');
        }

        /** The set of states of an entry; 0 when the text is at fault. */
        private int takeEntry() {
            if (take('?')) {
                return ALL_STATES;
            }
            if (take('{')) {
                int set = takeRisingStates(STATES);
                return set != 0 && take('}') ? set : 0;
            }
            return takeRisingStates(1);
        }

        private int takeRisingStates(int limit) {
            int set = 0;
            int taken = 0;
            // Each state is offered once, in order: what does not rise is left standing.
            for (int state = 0; state < STATES && taken < limit; state++) {
                if (take((char) ('0' + state))) {
                    set |= 1 << state;
                    taken++;
                }
            }
            return set;
        }

        private boolean take(char c) {
            if (!isHere(c)) {
                return false;
            }
            at++;
            return true;
        }

        private boolean isHere(char c) {
            return at < size && typed[at] == c;
        }
    }

    /** Kinds, their states and the characters' weights. */
    private static final class Table {
        /** For each kind four bits a character, so that a tree is reckoned for all characters at once. */
        private final long[] rows = new long[KINDS];
        private final int[] weights = new int[CHARACTERS];
        private int kinds;
        private int characters;

        void clear() {
            kinds = 0;
            characters = 0;
            Arrays.fill(rows, 0L);
            Arrays.fill(weights, 1);
        }

        void put(int kind, int character, int set) {
            rows[kind] |= (long) set << (STATES * character);
        }

        boolean hasCharacter(int character) {
            return character >= 0 && character < characters;
        }

        int setOf(int kind, int character) {
            return bitsOf(rows[kind], character);
        }

        /** The four bits that a character has in a packed row. */
        int bitsOf(long packed, int character) {
            return (int) (packed >>> (STATES * character)) & ALL_STATES;
        }

        int treeCount() {
            if (kinds < 3) {
                return 0;
            }
            int count = 1;
            for (int kind = 3; kind < kinds; kind++) {
                count *= 2 * kind - 3;
            }
            return count;
        }

        int weighed(long packedChanges) {
            int sum = 0;
            for (int character = 0; character < characters; character++) {
                sum += bitsOf(packedChanges, character) * weights[character];
            }
            return sum;
        }

        int least() {
            int sum = 0;
            for (int character = 0; character < characters; character++) {
                sum += (fewestStates(character) - 1) * weights[character];
            }
            return sum;
        }

        int most() {
            int sum = 0;
            for (int character = 0; character < characters; character++) {
                sum += (kinds - mostAlike(character)) * weights[character];
            }
            return sum;
        }

        private int fewestStates(int character) {
            int fewest = STATES;
            for (int set = 1; set <= ALL_STATES; set++) {
                if (meetsEveryKind(set, character)) {
                    fewest = Math.min(fewest, Integer.bitCount(set));
                }
            }
            return fewest;
        }

        private boolean meetsEveryKind(int set, int character) {
            for (int kind = 0; kind < kinds; kind++) {
                if ((setOf(kind, character) & set) == 0) {
                    return false;
                }
            }
            return true;
        }

        private int mostAlike(int character) {
            int most = 0;
            for (int state = 0; state < STATES; state++) {
                int alike = 0;
                for (int kind = 0; kind < kinds; kind++) {
                    alike += setOf(kind, character) >> state & 1;
                }
                most = Math.max(most, alike);
            }
            return most;
        }
    }

    /** One tree, grown from its number: leaf k is node k, inner node j is node KINDS + j. */
    private static final class Tree {
        private final int[] choices = new int[KINDS];
        private final int[] one = new int[2 * KINDS];
        private final int[] other = new int[2 * KINDS];
        private final int[] below = new int[2 * KINDS];
        private final long[] sets = new long[2 * KINDS];
        /** The inner nodes, each behind those that hang at it, so that the last holds all the others. */
        private final int[] order = new int[KINDS];
        private int inner;

        void grow(int number, int kinds) {
            choose(number, kinds);
            inner = 0;
            for (int kind = 0; kind < kinds; kind++) {
                below[kind] = 1 << kind;
            }
            for (int kind = 2; kind < kinds; kind++) {
                insert(kind, chosenNode(kind));
            }
        }

        int growAndMeasure(int number, Table table) {
            grow(number, table.kinds);
            return table.weighed(packedChanges(table));
        }

        private void choose(int number, int kinds) {
            int rest = number;
            for (int kind = kinds - 1; kind >= 3; kind--) {
                int ways = 2 * kind - 3;
                choices[kind] = rest % ways;
                rest /= ways;
            }
        }

        private int chosenNode(int kind) {
            int choice = choices[kind];
            return choice < kind - 1 ? choice + 1 : KINDS + choice - kind + 3;
        }

        private void insert(int kind, int node) {
            int fresh = KINDS + kind;
            int place = 0;
            for (int i = 0; i < inner; i++) {
                if (order[i] == node) {
                    place = i + 1;
                } else {
                    makeRoom(order[i], node, fresh);
                }
            }
            one[fresh] = node;
            other[fresh] = kind;
            below[fresh] = below[node] | below[kind];
            System.arraycopy(order, place, order, place + 1, inner - place);
            order[place] = fresh;
            inner++;
        }

        private void makeRoom(int holder, int node, int fresh) {
            if (one[holder] == node) {
                one[holder] = fresh;
            } else if (other[holder] == node) {
                other[holder] = fresh;
            }
            // No two nodes have the same leaves: whoever has all of the node's leaves is above it.
            if ((below[holder] & below[node]) == below[node]) {
                below[holder] |= below[fresh - KINDS];
            }
        }

        /** The changes of every character, four bits each: they are at most six. */
        long packedChanges(Table table) {
            for (int kind = 0; kind < table.kinds; kind++) {
                sets[kind] = table.rows[kind];
            }
            long sum = 0;
            int top = 0;
            for (int i = 0; i < inner; i++) {
                top = order[i];
                long torn = tornAt(one[top], other[top]);
                sets[top] = joined(one[top], other[top], torn);
                sum += torn;
            }
            return sum + tornAt(0, top);
        }

        /** A one for every character of which two nodes have no state in common. */
        private long tornAt(int left, int right) {
            long both = sets[left] & sets[right];
            return ~(both | both >>> 1 | both >>> 2 | both >>> 3) & LOWEST;
        }

        /** The states in common, and where there are none all states of both. */
        private long joined(int left, int right, long torn) {
            return sets[left] & sets[right] | (sets[left] | sets[right]) & torn * ALL_STATES;
        }

        /** The last inner node has all kinds but 0 below it, and that is no split. */
        int splitCount() {
            return inner - 1;
        }

        int splitAt(int i) {
            return below[order[i]];
        }

        boolean hasSplit(int set) {
            for (int i = 0; i < splitCount(); i++) {
                if (splitAt(i) == set) {
                    return true;
                }
            }
            return false;
        }

        int splitsNotIn(Tree another) {
            int count = 0;
            for (int i = 0; i < splitCount(); i++) {
                if (!another.hasSplit(splitAt(i))) {
                    count++;
                }
            }
            return count;
        }
    }

    /** The trees of the least length, and how many of them have each split. */
    private static final class Finds {
        private final int[] numbers = new int[TREES];
        private final int[] tally = new int[SETS];
        private int count;

        void forget() {
            count = 0;
        }

        int gather(Table table, Tree tree) {
            int all = table.treeCount();
            int least = 0;
            count = 0;
            for (int number = 0; number < all; number++) {
                int measured = tree.growAndMeasure(number, table);
                if (count == 0 || measured < least) {
                    least = measured;
                    count = 0;
                }
                if (measured == least) {
                    numbers[count] = number;
                    count++;
                }
            }
            tallySplits(table.kinds, tree);
            return least;
        }

        private void tallySplits(int kinds, Tree tree) {
            Arrays.fill(tally, 0);
            for (int i = 0; i < count; i++) {
                tree.grow(numbers[i], kinds);
                for (int k = 0; k < tree.splitCount(); k++) {
                    tally[tree.splitAt(k)]++;
                }
            }
        }

        float shareOf(int set) {
            if (set < 0 || set >= SETS || count == 0) {
                return 0.0f;
            }
            return (float) tally[set] / (float) count;
        }
    }

    /** What was written down last, and the groups of kinds that stand in it. */
    private static final class Page {
        private final char[] signs = new char[PAGE];
        private final int[] groups = new int[KINDS];
        private int size;
        private int groupCount;

        void forgetGroups() {
            groupCount = 0;
        }

        void addGroup(int set) {
            if (groupCount < KINDS) {
                groups[groupCount] = set;
                groupCount++;
            }
        }

        int fill(int kinds) {
            size = 0;
            put('(');
            put('a');
            put(',');
            putSideBySide((1 << kinds) - 2, 0);
            put(')');
            put(';');
            return size;
        }

        private void putSideBySide(int set, int depth) {
            if (depth >= KINDS) {
                return;
            }
            int left = set;
            for (int kind = 0; kind < KINDS; kind++) {
                if ((left >> kind & 1) == 0) {
                    continue;
                }
                if (left != set) {
                    put(',');
                }
                int group = widestGroup(kind, set);
                if (group == 0) {
                    put((char) ('a' + kind));
                } else {
                    put('(');
                    putSideBySide(group, depth + 1);
                    put(')');
                }
                left &= ~(group | 1 << kind);
            }
        }

        /** The widest group with a kind that is only a part of a set; 0 when there is none. */
        private int widestGroup(int kind, int set) {
            int widest = 0;
            for (int i = 0; i < groupCount; i++) {
                int group = groups[i];
                boolean isPart = (group & set) == group && group != set;
                // Groups with a kind in common lie one in the other, and the outer is the greater number.
                if (isPart && (group >> kind & 1) != 0) {
                    widest = Math.max(widest, group);
                }
            }
            return widest;
        }

        private void put(char c) {
            if (size < PAGE) {
                signs[size] = c;
                size++;
            }
        }

        char signAt(int i) {
            return i >= 0 && i < size ? signs[i] : (char) 0;
        }
    }
}
