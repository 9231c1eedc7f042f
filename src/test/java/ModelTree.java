import java.util.ArrayDeque;
import java.util.ArrayList;
import java.util.Deque;
import java.util.List;

/**
 * The document once more, as slowly and as literally as possible: nodes that are objects, found
 * anew for every call. It shares no idea with the program, so that both are unlikely to be wrong
 * in the same way.
 */
final class ModelTree {
    private static final class Node {
        char label;
        Node parent;
        final List<Node> children = new ArrayList<>();

        Node(char label) {
            this.label = label;
        }

        Node copy() {
            Node copy = new Node(label);
            for (Node child : children) {
                copy.adopt(copy.children.size(), child.copy());
            }
            return copy;
        }

        void adopt(int k, Node child) {
            children.add(k, child);
            child.parent = this;
        }

        String text() {
            StringBuilder text = new StringBuilder().append(label);
            if (!children.isEmpty()) {
                text.append('(');
                for (Node child : children) {
                    text.append(child.text());
                }
                text.append(')');
            }
            return text.toString();
        }

        int depth() {
            return parent == null ? 0 : parent.depth() + 1;
        }

        int height() {
            int height = 0;
            for (Node child : children) {
                height = Math.max(height, child.height() + 1);
            }
            return height;
        }

        boolean holds(Node other) {
            return other != null && (other == this || holds(other.parent));
        }
    }

    private static final class Fault extends RuntimeException {
        private static final long serialVersionUID = 1L;
        final int index;

        Fault(int index) {
            super(null, null, false, false);
            this.index = index;
        }
    }

    private Node root = new Node('a');
    private final StringBuilder typed = new StringBuilder();
    private final Deque<Node> history = new ArrayDeque<>();
    private int width = 8;
    private int parsed;
    private int parsedNodes;

    // ---- what a call is told from

    private static void preorder(Node node, List<Node> into) {
        into.add(node);
        for (Node child : node.children) {
            preorder(child, into);
        }
    }

    private static void postorder(Node node, List<Node> into) {
        for (Node child : node.children) {
            postorder(child, into);
        }
        into.add(node);
    }

    private static void brackets(Node node, List<Node> into) {
        into.add(node);
        for (Node child : node.children) {
            brackets(child, into);
        }
        into.add(node);
    }

    private static List<Node> nodesOf(Node node) {
        List<Node> nodes = new ArrayList<>();
        preorder(node, nodes);
        return nodes;
    }

    private List<Node> nodes() {
        return nodesOf(root);
    }

    private List<Node> ranks() {
        List<Node> nodes = new ArrayList<>();
        postorder(root, nodes);
        return nodes;
    }

    private List<Node> positions() {
        List<Node> nodes = new ArrayList<>();
        brackets(root, nodes);
        return nodes;
    }

    private Node find(int number) {
        List<Node> nodes = nodes();
        return number >= 0 && number < nodes.size() ? nodes.get(number) : null;
    }

    private int numberOf(Node node) {
        return node == null ? -5 : nodes().indexOf(node);
    }

    private static int place(List<Node> list, long k, ModelTree tree) {
        return k < list.size() ? tree.numberOf(list.get((int) k)) : -5;
    }

    private static boolean bad(char label) {
        return "abcdefghijklmnopqrstuvwxyz".indexOf(label) < 0;
    }

    private int excess(int position) {
        List<Node> positions = positions();
        int excess = 0;
        for (int i = 0; i <= position; i++) {
            excess += positions.indexOf(positions.get(i)) == i ? 1 : -1;
        }
        return excess;
    }

    private void record() {
        history.addLast(root.copy());
        if (history.size() > 15) {
            history.removeFirst();
        }
    }

    // ---- texts

    int type(char character) {
        if (typed.length() == 300) {
            return -4;
        }
        return typed.append(character).length();
    }

    int clearText() {
        int length = typed.length();
        typed.setLength(0);
        return length;
    }

    private char peek() {
        if (parsed >= typed.length()) {
            throw new Fault(typed.length());
        }
        return typed.charAt(parsed);
    }

    private Node parseTree() {
        if (bad(peek()) || parsedNodes == 100) {
            throw new Fault(parsed);
        }
        Node node = new Node(peek());
        parsed++;
        parsedNodes++;
        if (parsed < typed.length() && peek() == '(') {
            parsed++;
            do {
                node.adopt(node.children.size(), parseTree());
            } while (peek() != ')');
            parsed++;
        }
        return node;
    }

    int read() {
        parsed = 0;
        parsedNodes = 0;
        try {
            Node tree = parseTree();
            if (parsed < typed.length()) {
                throw new Fault(parsed);
            }
            record();
            root = tree;
            return nodes().size();
        } catch (Fault fault) {
            return -100 - fault.index;
        }
    }

    int written(int k) {
        String text = root.text();
        if (k < -1) {
            return -2;
        }
        return k == -1 ? text.length() : k < text.length() ? text.charAt(k) : -5;
    }

    // ---- navigation

    int size() {
        return nodes().size();
    }

    int node(int number, int what) {
        Node node = find(number);
        if (node == null) {
            return -1;
        }
        int leaves = 0;
        for (Node below : nodesOf(node)) {
            leaves += below.children.isEmpty() ? 1 : 0;
        }
        return switch (what) {
            case 0 -> node.depth();
            case 1 -> numberOf(node.parent);
            case 2 -> node.children.size();
            case 3 -> nodesOf(node).size();
            case 4 -> node.height();
            case 5 -> node.parent == null ? 0 : node.parent.children.indexOf(node);
            case 6 -> leaves;
            case 7 -> positions().indexOf(node);
            case 8 -> positions().lastIndexOf(node);
            case 9 -> ranks().indexOf(node);
            case 10 -> node.label;
            default -> -2;
        };
    }

    int child(int number, int k) {
        Node node = find(number);
        if (node == null) {
            return -1;
        }
        return k < 0 ? -2 : place(node.children, k, this);
    }

    int neighbour(int number, int which) {
        Node node = find(number);
        if (node == null) {
            return -1;
        }
        if (which < 0 || which > 5) {
            return -2;
        }
        if (which < 2) {
            if (node.parent == null) {
                return -5;
            }
            int place = node.parent.children.indexOf(node) + (which == 0 ? 1 : -1);
            return place < 0 ? -5 : place(node.parent.children, place, this);
        }
        if (which < 4) {
            List<Node> level = levelOf(node.depth());
            int place = level.indexOf(node) + (which == 2 ? 1 : -1);
            return place < 0 ? -5 : place(level, place, this);
        }
        if (which == 4) {
            List<Node> nodes = nodes();
            for (int i = number + 1; i < nodes.size(); i++) {
                if (nodes.get(i).children.isEmpty()) {
                    return i;
                }
            }
            return -5;
        }
        Node largest = null;
        for (Node child : node.children) {
            if (largest == null || nodesOf(child).size() > nodesOf(largest).size()) {
                largest = child;
            }
        }
        return numberOf(largest);
    }

    private List<Node> levelOf(int depth) {
        List<Node> level = new ArrayList<>();
        for (Node node : nodes()) {
            if (node.depth() == depth) {
                level.add(node);
            }
        }
        return level;
    }

    int ancestorAt(int number, int depth) {
        Node node = find(number);
        if (node == null) {
            return -1;
        }
        if (depth < 0 || depth > node.depth()) {
            return -2;
        }
        while (node.depth() != depth) {
            node = node.parent;
        }
        return numberOf(node);
    }

    private static Node meeting(Node node, Node other) {
        return node.holds(other) ? node : meeting(node.parent, other);
    }

    int common(int first, int second) {
        Node node = find(first);
        Node other = find(second);
        return node == null || other == null ? -1 : numberOf(meeting(node, other));
    }

    int way(int first, int second, int k) {
        Node node = find(first);
        Node other = find(second);
        if (node == null || other == null) {
            return -1;
        }
        if (k < -1) {
            return -2;
        }
        Node turn = meeting(node, other);
        List<Node> way = new ArrayList<>();
        for (Node up = node; up != turn; up = up.parent) {
            way.add(up);
        }
        way.add(turn);
        int top = way.size();
        for (Node up = other; up != turn; up = up.parent) {
            way.add(top, up);
        }
        return k == -1 ? way.size() - 1 : place(way, k, this);
    }

    int level(int depth, int k) {
        if (depth < 0 || k < -1) {
            return -2;
        }
        List<Node> level = levelOf(depth);
        return k == -1 ? level.size() : place(level, k, this);
    }

    int byPostorder(int rank) {
        return rank < 0 || rank >= size() ? -2 : numberOf(ranks().get(rank));
    }

    int deepest(int number) {
        Node node = find(number);
        if (node == null) {
            return -1;
        }
        Node deepest = node;
        for (Node below : nodesOf(node)) {
            if (below.depth() > deepest.depth()) {
                deepest = below;
            }
        }
        return numberOf(deepest);
    }

    // ---- brackets and blocks

    int bracket(int position, int what) {
        List<Node> positions = positions();
        if (position < 0 || position >= positions.size()) {
            return -1;
        }
        Node node = positions.get(position);
        boolean opens = positions.indexOf(node) == position;
        return switch (what) {
            case 0 -> opens ? 1 : 0;
            case 1 -> excess(position);
            case 2 -> opens ? positions.lastIndexOf(node) : positions.indexOf(node);
            case 3 -> node.parent == null ? -5 : positions.indexOf(node.parent);
            case 4 -> numberOf(node);
            default -> -2;
        };
    }

    int setWidth(int newWidth) {
        if (newWidth < 4 || newWidth > 32) {
            return -2;
        }
        int previous = width;
        width = newWidth;
        return previous;
    }

    private int blocks() {
        int blocks = 0;
        for (int start = 0; start < 2 * size(); start += width) {
            blocks++;
        }
        return blocks;
    }

    int block(int block, int what) {
        if (block < 0 || block >= blocks()) {
            return -1;
        }
        int start = block * width;
        int least = Integer.MAX_VALUE;
        int greatest = Integer.MIN_VALUE;
        int many = 0;
        for (int position = start; position < 2 * size() && position < start + width; position++) {
            least = Math.min(least, excess(position));
            greatest = Math.max(greatest, excess(position));
            many++;
        }
        return switch (what) {
            case 0 -> block == 0 ? 0 : excess(start - 1);
            case 1 -> least;
            case 2 -> greatest;
            case 3 -> many;
            default -> -2;
        };
    }

    int space(int what) {
        int table = blocks() * 3 * Integer.toBinaryString(size()).length();
        return switch (what) {
            case 0 -> 2 * size();
            case 1 -> 5 * size();
            case 2 -> table;
            case 3 -> 7 * size() + table;
            case 4 -> blocks();
            default -> -2;
        };
    }

    // ---- labels

    int setLabel(int number, char label) {
        Node node = find(number);
        if (node == null) {
            return -1;
        }
        if (bad(label)) {
            return -2;
        }
        record();
        char previous = node.label;
        node.label = label;
        return previous;
    }

    private static List<Node> labelledIn(Node node, char label) {
        List<Node> nodes = nodesOf(node);
        nodes.removeIf(below -> below.label != label);
        return nodes;
    }

    int labelled(int number, char label) {
        Node node = find(number);
        if (node == null) {
            return -1;
        }
        return bad(label) ? -2 : labelledIn(node, label).size();
    }

    int select(int number, char label, int k) {
        Node node = find(number);
        if (node == null) {
            return -1;
        }
        return bad(label) || k < 0 ? -2 : place(labelledIn(node, label), k, this);
    }

    int ancestorWith(int number, char label) {
        Node node = find(number);
        if (node == null) {
            return -1;
        }
        if (bad(label)) {
            return -2;
        }
        Node ancestor = node.parent;
        while (ancestor != null && ancestor.label != label) {
            ancestor = ancestor.parent;
        }
        return numberOf(ancestor);
    }

    int areEqual(int first, int second) {
        Node node = find(first);
        Node other = find(second);
        if (node == null || other == null) {
            return -1;
        }
        return node.text().equals(other.text()) ? 1 : 0;
    }

    int copies(int number) {
        Node node = find(number);
        if (node == null) {
            return -1;
        }
        int copies = 0;
        for (Node other : nodes()) {
            copies += node.text().equals(other.text()) ? 1 : 0;
        }
        return copies;
    }

    // ---- edits

    int insert(int number, int k, char label) {
        Node parent = find(number);
        if (parent == null) {
            return -1;
        }
        if (k < 0 || k > parent.children.size() || bad(label)) {
            return -2;
        }
        if (size() == 100) {
            return -4;
        }
        record();
        Node node = new Node(label);
        parent.adopt(k, node);
        return numberOf(node);
    }

    int wrap(int number, int first, int many, char label) {
        Node parent = find(number);
        if (parent == null) {
            return -1;
        }
        int children = parent.children.size();
        if (first < 0 || first > children || many < 0 || many > children - first || bad(label)) {
            return -2;
        }
        if (size() == 100) {
            return -4;
        }
        record();
        Node node = new Node(label);
        for (int i = 0; i < many; i++) {
            node.adopt(i, parent.children.remove(first));
        }
        parent.adopt(first, node);
        return numberOf(node);
    }

    int remove(int number) {
        Node node = find(number);
        if (node == null) {
            return -1;
        }
        if (node == root) {
            return -3;
        }
        record();
        int place = node.parent.children.indexOf(node);
        node.parent.children.remove(place);
        for (Node child : node.children) {
            node.parent.adopt(place++, child);
        }
        return size();
    }

    int cut(int number) {
        Node node = find(number);
        if (node == null) {
            return -1;
        }
        if (node == root) {
            return -3;
        }
        record();
        node.parent.children.remove(node);
        return size();
    }

    int move(int number, int to, int k) {
        Node node = find(number);
        Node parent = find(to);
        if (node == null || parent == null) {
            return -1;
        }
        if (node.holds(parent)) {
            return -3;
        }
        List<Node> others = new ArrayList<>(parent.children);
        others.remove(node);
        if (k < 0 || k > others.size()) {
            return -2;
        }
        record();
        node.parent.children.remove(node);
        parent.adopt(k, node);
        return numberOf(node);
    }

    int undo() {
        if (history.isEmpty()) {
            return -5;
        }
        root = history.removeLast();
        return history.size();
    }

    String text() {
        return root.text();
    }
}
