/**
 * An ordered, labelled tree that answers as a sequence of brackets with a table of blocks.
 *
 * The tree is held as the depths and the labels of its nodes in preorder: the brackets, their
 * excess and the blocks follow from the depths alone, so no second row has to be kept in step.
 */
public final class BracketTree {
    public static final int UNKNOWN = -1;
    public static final int BAD_VALUE = -2;
    public static final int NOT_POSSIBLE = -3;
    public static final int FULL = -4;
    public static final int NONE = -5;

    private static final int MOST_NODES = 100;
    private static final int MOST_CHARACTERS = 300;
    private static final int MOST_TREES = 15;
    private static final int LEAST_WIDTH = 4;
    private static final int FIRST_WIDTH = 8;
    private static final int GREATEST_WIDTH = 32;
    private static final int BITS_OF_BRACKETS = 2;
    private static final int BITS_OF_LABEL = 5;
    private static final int NUMBERS_OF_BLOCK = 3;
    private static final int FAULT_AT_START = -100;
    private static final int NO_FAULT = -1;

    private final Tree tree;
    private final Blocks blocks;
    private final History history;
    private final Text text;

    public BracketTree() {
        tree = new Tree();
        blocks = new Blocks();
        history = new History();
        text = new Text();
    }

    // ---- texts

    public int type(char character) {
        return text.append(character);
    }

    public int clearText() {
        return text.empty();
    }

    public int read() {
        int fault = text.findFault();
        if (fault != NO_FAULT) {
            return FAULT_AT_START - fault;
        }
        history.record(tree);
        text.makeTree(tree);
        return tree.count();
    }

    public int written(int k) {
        if (k < -1) {
            return BAD_VALUE;
        }
        return k == -1 ? tree.writtenLength() : tree.writtenAt(k);
    }

    // ---- navigation

    public int size() {
        return tree.count();
    }

    public int node(int node, int what) {
        if (!tree.has(node)) {
            return UNKNOWN;
        }
        switch (what) {
            case 0:
                return tree.depthOf(node);
            case 1:
                return tree.parentOf(node);
            case 2:
                return tree.childCount(node);
            case 3:
                return tree.sizeOf(node);
            case 4:
                return tree.depthOf(tree.deepestOf(node)) - tree.depthOf(node);
            case 5:
                return tree.placeOf(node);
            case 6:
                return tree.leafCount(node);
            case 7:
                return tree.openingOf(node);
            case 8:
                return tree.closingOf(node);
            case 9:
                return tree.postorderOf(node);
            case 10:
                return tree.labelOf(node);
            default:
                return BAD_VALUE;
        }
    }

    public int child(int node, int k) {
        if (!tree.has(node)) {
            return UNKNOWN;
        }
        if (k < 0) {
            return BAD_VALUE;
        }
        return k < tree.childCount(node) ? tree.startOfPlace(node, k) : NONE;
    }

    public int neighbour(int node, int which) {
        if (!tree.has(node)) {
            return UNKNOWN;
        }
        switch (which) {
            case 0:
                return tree.nextSibling(node);
            case 1:
                return tree.previousSibling(node);
            case 2:
                return tree.nextAtDepth(node);
            case 3:
                return tree.previousAtDepth(node);
            case 4:
                return tree.nextLeaf(node);
            case 5:
                return tree.largestChild(node);
            default:
                return BAD_VALUE;
        }
    }

    public int ancestorAt(int node, int depth) {
        if (!tree.has(node)) {
            return UNKNOWN;
        }
        if (depth < 0 || depth > tree.depthOf(node)) {
            return BAD_VALUE;
        }
        return tree.climb(node, depth);
    }

    public int common(int node, int other) {
        if (!tree.has(node) || !tree.has(other)) {
            return UNKNOWN;
        }
        return tree.meetingOf(node, other);
    }

    public int way(int node, int other, int k) {
        if (!tree.has(node) || !tree.has(other)) {
            return UNKNOWN;
        }
        if (k < -1) {
            return BAD_VALUE;
        }
        int turn = tree.depthOf(tree.meetingOf(node, other));
        int up = tree.depthOf(node) - turn;
        int steps = up + tree.depthOf(other) - turn;
        if (k == -1) {
            return steps;
        }
        if (k > steps) {
            return NONE;
        }
        return k <= up ? tree.climb(node, tree.depthOf(node) - k) : tree.climb(other, turn + k - up);
    }

    public int level(int depth, int k) {
        if (depth < 0 || k < -1) {
            return BAD_VALUE;
        }
        return k == -1 ? tree.countAtDepth(depth) : tree.findAtDepth(depth, k);
    }

    public int byPostorder(int rank) {
        if (rank < 0 || rank >= tree.count()) {
            return BAD_VALUE;
        }
        return tree.findByPostorder(rank);
    }

    public int deepest(int node) {
        return tree.has(node) ? tree.deepestOf(node) : UNKNOWN;
    }

    // ---- brackets and blocks

    public int bracket(int position, int what) {
        if (position < 0 || position >= tree.positionCount()) {
            return UNKNOWN;
        }
        int node = tree.nodeOfPosition(position);
        boolean opens = tree.openingOf(node) == position;
        switch (what) {
            case 0:
                return opens ? 1 : 0;
            case 1:
                return tree.excessBefore(position + 1);
            case 2:
                return opens ? tree.closingOf(node) : tree.openingOf(node);
            case 3:
                return node == 0 ? NONE : tree.openingOf(tree.parentOf(node));
            case 4:
                return node;
            default:
                return BAD_VALUE;
        }
    }

    public int setWidth(int width) {
        if (width < LEAST_WIDTH || width > GREATEST_WIDTH) {
            return BAD_VALUE;
        }
        return blocks.changeWidth(width);
    }

    public int block(int block, int what) {
        if (block < 0 || block >= blocks.countFor(tree)) {
            return UNKNOWN;
        }
        switch (what) {
            case 0:
                return tree.excessBefore(blocks.startOf(block));
            case 1:
                return blocks.leastExcess(tree, block);
            case 2:
                return blocks.greatestExcess(tree, block);
            case 3:
                return blocks.positionsOf(tree, block);
            default:
                return BAD_VALUE;
        }
    }

    public int space(int what) {
        int ofBrackets = BITS_OF_BRACKETS * tree.count();
        int ofLabels = BITS_OF_LABEL * tree.count();
        int ofTable = NUMBERS_OF_BLOCK * binaryDigits(tree.count()) * blocks.countFor(tree);
        switch (what) {
            case 0:
                return ofBrackets;
            case 1:
                return ofLabels;
            case 2:
                return ofTable;
            case 3:
                return ofBrackets + ofLabels + ofTable;
            case 4:
                return blocks.countFor(tree);
            default:
                return BAD_VALUE;
        }
    }

    // ---- labels

    public int setLabel(int node, char label) {
        if (!tree.has(node)) {
            return UNKNOWN;
        }
        if (!isLetter(label)) {
            return BAD_VALUE;
        }
        int previous = tree.labelOf(node);
        history.record(tree);
        tree.putNode(node, tree.depthOf(node), label);
        return previous;
    }

    public int labelled(int node, char label) {
        if (!tree.has(node)) {
            return UNKNOWN;
        }
        return isLetter(label) ? tree.countLabel(node, label) : BAD_VALUE;
    }

    public int select(int node, char label, int k) {
        if (!tree.has(node)) {
            return UNKNOWN;
        }
        if (!isLetter(label) || k < 0) {
            return BAD_VALUE;
        }
        return tree.findLabel(node, label, k);
    }

    public int ancestorWith(int node, char label) {
        if (!tree.has(node)) {
            return UNKNOWN;
        }
        return isLetter(label) ? tree.findAncestor(node, label) : BAD_VALUE;
    }

    public int areEqual(int node, int other) {
        if (!tree.has(node) || !tree.has(other)) {
            return UNKNOWN;
        }
        return tree.sameSubtrees(node, other) ? 1 : 0;
    }

    public int copies(int node) {
        return tree.has(node) ? tree.countEqual(node) : UNKNOWN;
    }

    // ---- edits

    public int insert(int parent, int k, char label) {
        // A node around no children at all is a node without children.
        return wrap(parent, k, 0, label);
    }

    public int wrap(int parent, int first, int many, char label) {
        if (!tree.has(parent)) {
            return UNKNOWN;
        }
        int children = tree.childCount(parent);
        if (first < 0 || first > children || many < 0 || many > children - first || !isLetter(label)) {
            return BAD_VALUE;
        }
        if (tree.count() >= MOST_NODES) {
            return FULL;
        }
        history.record(tree);
        return tree.wrapChildren(parent, first, many, label);
    }

    public int remove(int node) {
        if (!tree.has(node)) {
            return UNKNOWN;
        }
        if (node == 0) {
            return NOT_POSSIBLE;
        }
        history.record(tree);
        tree.dissolve(node);
        return tree.count();
    }

    public int cut(int node) {
        if (!tree.has(node)) {
            return UNKNOWN;
        }
        if (node == 0) {
            return NOT_POSSIBLE;
        }
        history.record(tree);
        tree.closeGap(node, tree.sizeOf(node));
        return tree.count();
    }

    public int move(int node, int parent, int k) {
        if (!tree.has(node) || !tree.has(parent)) {
            return UNKNOWN;
        }
        if (parent >= node && parent < tree.endOf(node)) {
            return NOT_POSSIBLE;
        }
        int places = tree.childCount(parent) - (tree.parentOf(node) == parent ? 1 : 0);
        if (k < 0 || k > places) {
            return BAD_VALUE;
        }
        history.record(tree);
        return tree.transplant(node, parent, k);
    }

    public int undo() {
        return history.isBlank() ? NONE : history.recall(tree);
    }

    // ---- what all the classes share

    private static boolean isLetter(int character) {
        return character >= 'a' && character <= 'z';
    }

    private static int binaryDigits(int number) {
        int digits = 1;
        while (digits < 31 && number >= 1 << digits) {
            digits++;
        }
        return digits;
    }

    // Every index of a row is tested here, so that no other line needs to prove its own.
    private static int get(int[] row, int index) {
        return index >= 0 && index < row.length ? row[index] : 0;
    }

    private static void put(int[] row, int index, int value) {
        if (index >= 0 && index < row.length) {
            row[index] = value;
        }
    }

    /** The nodes in preorder: a node's subtree is the run of greater depths behind it. */
    private static final class Tree {
        private final int[] depths = new int[MOST_NODES];
        private final int[] labels = new int[MOST_NODES];
        private final int[] heldDepths = new int[MOST_NODES];
        private final int[] heldLabels = new int[MOST_NODES];
        private int count;

        Tree() {
            put(labels, 0, 'a');
            count = 1;
        }

        int count() {
            return count;
        }

        boolean has(int node) {
            return node >= 0 && node < count;
        }

        // Behind the last node the depth counts as 0, so that every subtree ends there.
        int depthOf(int node) {
            return has(node) ? get(depths, node) : 0;
        }

        int labelOf(int node) {
            return get(labels, node);
        }

        // ---- relations

        int endOf(int node) {
            int depth = depthOf(node);
            for (int next = node + 1; next < count; next++) {
                if (depthOf(next) <= depth) {
                    return next;
                }
            }
            return count;
        }

        int sizeOf(int node) {
            return endOf(node) - node;
        }

        int parentOf(int node) {
            return node == 0 ? NONE : climb(node, depthOf(node) - 1);
        }

        int climb(int node, int depth) {
            for (int before = node; before >= 0; before--) {
                if (depthOf(before) == depth) {
                    return before;
                }
            }
            return NONE;
        }

        int childCount(int node) {
            int end = endOf(node);
            int children = 0;
            for (int below = node + 1; below < end; below++) {
                if (depthOf(below) == depthOf(node) + 1) {
                    children++;
                }
            }
            return children;
        }

        // The number that a node has, or would get, at place k among the children.
        int startOfPlace(int node, int k) {
            int end = endOf(node);
            int place = 0;
            for (int below = node + 1; below < end; below++) {
                if (depthOf(below) == depthOf(node) + 1) {
                    if (place == k) {
                        return below;
                    }
                    place++;
                }
            }
            return end;
        }

        int placeOf(int node) {
            int depth = depthOf(node);
            int place = 0;
            for (int before = node - 1; before >= 0 && depthOf(before) >= depth; before--) {
                if (depthOf(before) == depth) {
                    place++;
                }
            }
            return place;
        }

        boolean isLeaf(int node) {
            return depthOf(node + 1) <= depthOf(node);
        }

        int leafCount(int node) {
            int end = endOf(node);
            int leaves = 0;
            for (int below = node; below < end; below++) {
                if (isLeaf(below)) {
                    leaves++;
                }
            }
            return leaves;
        }

        int deepestOf(int node) {
            int end = endOf(node);
            int deepest = node;
            for (int below = node + 1; below < end; below++) {
                if (depthOf(below) > depthOf(deepest)) {
                    deepest = below;
                }
            }
            return deepest;
        }

        // Of the nodes up to the end of its subtree, only its ancestors and itself do not
        // come before it.
        int postorderOf(int node) {
            return endOf(node) - 1 - depthOf(node);
        }

        int findByPostorder(int rank) {
            for (int node = 0; node < count; node++) {
                if (postorderOf(node) == rank) {
                    return node;
                }
            }
            return NONE;
        }

        // Between two nodes in preorder, the least depth tells how far the way has to climb.
        int meetingOf(int node, int other) {
            int first = Math.min(node, other);
            int last = Math.max(node, other);
            int depth = depthOf(first);
            for (int between = first + 1; between <= last; between++) {
                depth = Math.min(depth, depthOf(between) - 1);
            }
            return climb(first, depth);
        }

        // ---- neighbours

        int nextSibling(int node) {
            int end = endOf(node);
            return has(end) && depthOf(end) == depthOf(node) ? end : NONE;
        }

        int previousSibling(int node) {
            return placeOf(node) == 0 ? NONE : previousAtDepth(node);
        }

        int nextAtDepth(int node) {
            for (int next = node + 1; next < count; next++) {
                if (depthOf(next) == depthOf(node)) {
                    return next;
                }
            }
            return NONE;
        }

        int previousAtDepth(int node) {
            return climb(node - 1, depthOf(node));
        }

        int nextLeaf(int node) {
            for (int next = node + 1; next < count; next++) {
                if (isLeaf(next)) {
                    return next;
                }
            }
            return NONE;
        }

        int largestChild(int node) {
            int end = endOf(node);
            int largest = NONE;
            int most = 0;
            for (int below = node + 1; below < end; below++) {
                if (depthOf(below) == depthOf(node) + 1 && sizeOf(below) > most) {
                    largest = below;
                    most = sizeOf(below);
                }
            }
            return largest;
        }

        // ---- levels

        int countAtDepth(int depth) {
            int found = 0;
            for (int node = 0; node < count; node++) {
                if (depthOf(node) == depth) {
                    found++;
                }
            }
            return found;
        }

        int findAtDepth(int depth, int k) {
            int place = 0;
            for (int node = 0; node < count; node++) {
                if (depthOf(node) == depth) {
                    if (place == k) {
                        return node;
                    }
                    place++;
                }
            }
            return NONE;
        }

        // ---- brackets

        int positionCount() {
            return 2 * count;
        }

        // Before it stand all lower numbers' opening brackets, and the closing ones of those
        // that are not its ancestors.
        int openingOf(int node) {
            return 2 * node - depthOf(node);
        }

        int closingOf(int node) {
            return openingOf(node) + 2 * sizeOf(node) - 1;
        }

        int openedBefore(int position) {
            int node = 0;
            while (node < count && openingOf(node) < position) {
                node++;
            }
            return node;
        }

        int excessBefore(int position) {
            return 2 * openedBefore(position) - position;
        }

        // 1 if the node opens there, to be added to the number of nodes opened before.
        int opensAt(int node, int position) {
            return has(node) && openingOf(node) == position ? 1 : 0;
        }

        // A closing bracket belongs to the latest opened node that is as deep as the excess left.
        int nodeOfPosition(int position) {
            int latest = openedBefore(position + 1) - 1;
            return openingOf(latest) == position ? latest : climb(latest, excessBefore(position + 1));
        }

        // ---- labels

        int countLabel(int node, int label) {
            int end = endOf(node);
            int found = 0;
            for (int below = node; below < end; below++) {
                if (labelOf(below) == label) {
                    found++;
                }
            }
            return found;
        }

        int findLabel(int node, int label, int k) {
            int end = endOf(node);
            int place = 0;
            for (int below = node; below < end; below++) {
                if (labelOf(below) == label) {
                    if (place == k) {
                        return below;
                    }
                    place++;
                }
            }
            return NONE;
        }

        int findAncestor(int node, int label) {
            int depth = depthOf(node);
            for (int before = node - 1; before >= 0; before--) {
                if (depthOf(before) < depth) {
                    if (labelOf(before) == label) {
                        return before;
                    }
                    depth = depthOf(before);
                }
            }
            return NONE;
        }

        // Labels and relative depths in preorder tell a subtree whole.
        boolean sameSubtrees(int node, int other) {
            int many = sizeOf(node);
            if (sizeOf(other) != many) {
                return false;
            }
            int lower = depthOf(other) - depthOf(node);
            for (int i = 0; i < many; i++) {
                if (labelOf(node + i) != labelOf(other + i)
                        || depthOf(node + i) + lower != depthOf(other + i)) {
                    return false;
                }
            }
            return true;
        }

        int countEqual(int node) {
            int found = 0;
            for (int other = 0; other < count; other++) {
                if (sameSubtrees(node, other)) {
                    found++;
                }
            }
            return found;
        }

        // ---- the text that describes the tree

        // One parenthesis opens behind a node with children; behind a leaf as many close as
        // subtrees around it end there.
        int signsBehind(int node) {
            return isLeaf(node) ? depthOf(node) - depthOf(node + 1) : 1;
        }

        int writtenLength() {
            int length = 0;
            for (int node = 0; node < count; node++) {
                length += 1 + signsBehind(node);
            }
            return length;
        }

        int writtenAt(int k) {
            int start = 0;
            for (int node = 0; node < count; node++) {
                int end = start + 1 + signsBehind(node);
                if (k == start) {
                    return labelOf(node);
                }
                if (k < end) {
                    return isLeaf(node) ? ')' : '(';
                }
                start = end;
            }
            return NONE;
        }

        // ---- edits

        void empty() {
            count = 0;
        }

        void append(int depth, int label) {
            if (count < MOST_NODES) {
                putNode(count, depth, label);
                count++;
            }
        }

        void putNode(int node, int depth, int label) {
            put(depths, node, depth);
            put(labels, node, label);
        }

        void openGap(int start, int many) {
            for (int node = count - 1; node >= start; node--) {
                putNode(node + many, depthOf(node), labelOf(node));
            }
            count = Math.min(count + many, MOST_NODES);
        }

        void closeGap(int start, int many) {
            for (int node = start + many; node < count; node++) {
                putNode(node - many, depthOf(node), labelOf(node));
            }
            count = Math.max(count - many, 0);
        }

        void sink(int start, int end, int lower) {
            for (int node = start; node < end; node++) {
                putNode(node, depthOf(node) + lower, labelOf(node));
            }
        }

        int wrapChildren(int parent, int first, int many, int label) {
            int start = startOfPlace(parent, first);
            int end = startOfPlace(parent, first + many);
            sink(start, end, 1);
            openGap(start, 1);
            putNode(start, depthOf(parent) + 1, label);
            return start;
        }

        void dissolve(int node) {
            sink(node + 1, endOf(node), -1);
            closeGap(node, 1);
        }

        int transplant(int node, int parent, int k) {
            int many = sizeOf(node);
            hold(node, many);
            closeGap(node, many);
            int target = parent < node ? parent : parent - many;
            int start = startOfPlace(target, k);
            openGap(start, many);
            release(start, many, depthOf(target) + 1);
            return start;
        }

        void hold(int node, int many) {
            for (int i = 0; i < many; i++) {
                put(heldDepths, i, depthOf(node + i) - depthOf(node));
                put(heldLabels, i, labelOf(node + i));
            }
        }

        void release(int start, int many, int depth) {
            for (int i = 0; i < many; i++) {
                putNode(start + i, get(heldDepths, i) + depth, get(heldLabels, i));
            }
        }
    }

    /** The blocks of positions: their bounds, and the table's numbers, counted when asked for. */
    private static final class Blocks {
        private int width = FIRST_WIDTH;

        int changeWidth(int newWidth) {
            int previous = width;
            width = newWidth;
            return previous;
        }

        int countFor(Tree tree) {
            int divisor = Math.max(width, LEAST_WIDTH);
            return (tree.positionCount() + divisor - 1) / divisor;
        }

        int startOf(int number) {
            return number * width;
        }

        int endOf(Tree tree, int number) {
            return Math.min(startOf(number) + width, tree.positionCount());
        }

        int positionsOf(Tree tree, int number) {
            return endOf(tree, number) - startOf(number);
        }

        int leastExcess(Tree tree, int number) {
            int end = endOf(tree, number);
            int opened = tree.openedBefore(startOf(number));
            int least = MOST_NODES;
            for (int position = startOf(number); position < end; position++) {
                opened += tree.opensAt(opened, position);
                least = Math.min(least, 2 * opened - position - 1);
            }
            return least;
        }

        int greatestExcess(Tree tree, int number) {
            int end = endOf(tree, number);
            int opened = tree.openedBefore(startOf(number));
            int greatest = 0;
            for (int position = startOf(number); position < end; position++) {
                opened += tree.opensAt(opened, position);
                greatest = Math.max(greatest, 2 * opened - position - 1);
            }
            return greatest;
        }
    }

    /** A ring of trees, side by side in the same rows, so that an edit makes no new object. */
    private static final class History {
        private final int[] counts = new int[MOST_TREES];
        private final int[] depths = new int[MOST_TREES * MOST_NODES];
        private final int[] labels = new int[MOST_TREES * MOST_NODES];
        private int slot;
        private int kept;

        boolean isBlank() {
            return kept == 0;
        }

        void record(Tree tree) {
            int start = slot * MOST_NODES;
            put(counts, slot, tree.count());
            for (int node = 0; node < tree.count(); node++) {
                put(depths, start + node, tree.depthOf(node));
                put(labels, start + node, tree.labelOf(node));
            }
            slot = slot + 1 < MOST_TREES ? slot + 1 : 0;
            kept = Math.min(kept + 1, MOST_TREES);
        }

        int recall(Tree tree) {
            slot = slot > 0 ? slot - 1 : MOST_TREES - 1;
            kept = Math.max(kept - 1, 0);
            int start = slot * MOST_NODES;
            int nodes = get(counts, slot);
            tree.empty();
            for (int node = 0; node < nodes; node++) {
                tree.append(get(depths, start + node), get(labels, start + node));
            }
            return kept;
        }
    }

    /** The typed text, and how it is read. */
    private static final class Text {
        private final int[] characters = new int[MOST_CHARACTERS];
        private int length;

        int append(char character) {
            if (length >= MOST_CHARACTERS) {
                return FULL;
            }
            put(characters, length, character);
            length++;
            return length;
        }

        int empty() {
            int previous = length;
            length = 0;
            return previous;
        }

        int findFault() {
            int open = 0;
            int nodes = 0;
            for (int i = 0; i < length; i++) {
                if (!isAllowed(i, open, nodes)) {
                    return i;
                }
                open += deeper(i);
                nodes += isLetter(get(characters, i)) ? 1 : 0;
            }
            return length > 0 && open == 0 ? NO_FAULT : length;
        }

        // Outside of all parentheses only the first letter may stand; inside, a letter may
        // stand anywhere.
        boolean isAllowed(int index, int open, int nodes) {
            int character = get(characters, index);
            int before = index > 0 ? get(characters, index - 1) : 0;
            if (character == '(') {
                return isLetter(before);
            }
            if (character == ')') {
                return open > 0 && before != '(';
            }
            return isLetter(character) && (index == 0 || open > 0) && nodes < MOST_NODES;
        }

        int deeper(int index) {
            int character = get(characters, index);
            return character == '(' ? 1 : character == ')' ? -1 : 0;
        }

        void makeTree(Tree tree) {
            int depth = 0;
            tree.empty();
            for (int i = 0; i < length; i++) {
                if (isLetter(get(characters, i))) {
                    tree.append(depth, get(characters, i));
                }
                depth += deeper(i);
            }
        }
    }
}
