import java.util.ArrayList;
import java.util.List;

/**
 * Every tree of few nodes, with every call and every argument up to just outside of its range,
 * against the model: no boundary that shows in a small tree is left to chance.
 */
public final class SmallTreeTests extends TreeTest {
    private static final int MOST_NODES = 5;
    private static final int MOST_SIGNS = 7;
    private static final char[] LABELS = {'a', 'b', '`'};

    private static String text;
    private static BracketTree tree;
    private static ModelTree model;

    public static void main(String[] args) {
        for (int n = 1; n <= MOST_NODES; n++) {
            for (String forest : forests(n - 1)) {
                for (char root = 'a'; root <= 'b'; root++) {
                    playTree(forest.isEmpty() ? "" + root : root + "(" + forest + ")", n);
                }
            }
        }
        readEachText("");
        Check.close("SmallTreeTests");
    }

    // ---- all trees

    private static List<String> forests(int nodes) {
        List<String> all = new ArrayList<>();
        if (nodes == 0) {
            all.add("");
            return all;
        }
        for (int first = 1; first <= nodes; first++) {
            for (String below : forests(first - 1)) {
                for (String behind : forests(nodes - first)) {
                    all.add("a" + (below.isEmpty() ? "" : "(" + below + ")") + behind);
                    all.add("b" + (below.isEmpty() ? "" : "(" + below + ")") + behind);
                }
            }
        }
        return all;
    }

    private static void renew() {
        tree = new BracketTree();
        model = new ModelTree();
        for (int i = 0; i < text.length(); i++) {
            tree.type(text.charAt(i));
            model.type(text.charAt(i));
        }
        Check.due("read() of " + text, model.read(), tree.read());
    }

    private static void same(String what, int want, int got) {
        Check.due(what + " in " + text, want, got);
    }

    private static void sameTree(String what, int want, int got) {
        same(what, want, got);
        is(what + " in " + text, model.text(), tree);
        same("undo() of " + what, model.undo(), tree.undo());
        is("undone " + what, model.text(), tree);
        renew();
    }

    private static void playTree(String newText, int n) {
        text = newText;
        renew();
        askOne(n);
        askOfNodes(n);
        askPairs(n);
        askBlocks(n);
        editOne(n);
        editMany(n);
    }

    // ---- questions

    private static void askOne(int n) {
        same("size()", model.size(), tree.size());
        for (int k = -2; k <= text.length() + 1; k++) {
            same("written(" + k + ")", model.written(k), tree.written(k));
        }
        for (int depth = -1; depth <= n + 1; depth++) {
            for (int k = -2; k <= n + 1; k++) {
                same("level(" + depth + ", " + k + ")", model.level(depth, k), tree.level(depth, k));
            }
        }
        for (int rank = -1; rank <= n + 1; rank++) {
            same("byPostorder(" + rank + ")", model.byPostorder(rank), tree.byPostorder(rank));
        }
        for (int position = -1; position <= 2 * n + 1; position++) {
            for (int what = -1; what <= 5; what++) {
                same("bracket(" + position + ", " + what + ")",
                        model.bracket(position, what), tree.bracket(position, what));
            }
        }
    }

    private static void askOfNodes(int n) {
        for (int node = -1; node <= n + 1; node++) {
            renew();
            for (int what = -1; what <= 11; what++) {
                same("node(" + node + ", " + what + ")", model.node(node, what), tree.node(node, what));
                same("neighbour(" + node + ", " + what + ")",
                        model.neighbour(node, what), tree.neighbour(node, what));
            }
            for (int k = -2; k <= n + 1; k++) {
                same("child(" + node + ", " + k + ")", model.child(node, k), tree.child(node, k));
                same("ancestorAt(" + node + ", " + k + ")",
                        model.ancestorAt(node, k), tree.ancestorAt(node, k));
                for (char label : LABELS) {
                    same("select(" + node + ", " + label + ", " + k + ")",
                            model.select(node, label, k), tree.select(node, label, k));
                }
            }
            for (char label : LABELS) {
                same("labelled(" + node + ", " + label + ")",
                        model.labelled(node, label), tree.labelled(node, label));
                same("ancestorWith(" + node + ", " + label + ")",
                        model.ancestorWith(node, label), tree.ancestorWith(node, label));
            }
            same("deepest(" + node + ")", model.deepest(node), tree.deepest(node));
            same("copies(" + node + ")", model.copies(node), tree.copies(node));
        }
    }

    private static void askPairs(int n) {
        for (int node = -1; node <= n + 1; node++) {
            renew();
            for (int other = -1; other <= n + 1; other++) {
                String both = node + ", " + other;
                same("common(" + both + ")", model.common(node, other), tree.common(node, other));
                same("areEqual(" + both + ")", model.areEqual(node, other), tree.areEqual(node, other));
                for (int k = -2; k <= n + 1; k++) {
                    same("way(" + both + ", " + k + ")", model.way(node, other, k), tree.way(node, other, k));
                }
            }
        }
    }

    private static void askBlocks(int n) {
        renew();
        for (int width = 3; width <= 2 * n + 1; width++) {
            same("setWidth(" + width + ")", model.setWidth(width), tree.setWidth(width));
            for (int block = -1; block <= 3; block++) {
                for (int what = -1; what <= 4; what++) {
                    same("block(" + block + ", " + what + ") of width " + width,
                            model.block(block, what), tree.block(block, what));
                }
            }
            for (int what = -1; what <= 5; what++) {
                same("space(" + what + ") of width " + width, model.space(what), tree.space(what));
            }
        }
    }

    // ---- edits

    private static void editOne(int n) {
        for (int node = -1; node <= n; node++) {
            for (char label : LABELS) {
                sameTree("setLabel(" + node + ", " + label + ")",
                        model.setLabel(node, label), tree.setLabel(node, label));
                for (int k = -1; k <= n; k++) {
                    sameTree("insert(" + node + ", " + k + ", " + label + ")",
                            model.insert(node, k, label), tree.insert(node, k, label));
                }
            }
            sameTree("remove(" + node + ")", model.remove(node), tree.remove(node));
            sameTree("cut(" + node + ")", model.cut(node), tree.cut(node));
        }
    }

    private static void editMany(int n) {
        for (int node = -1; node <= n; node++) {
            for (int k = -1; k <= n; k++) {
                for (int other = -1; other <= n; other++) {
                    sameTree("move(" + node + ", " + other + ", " + k + ")",
                            model.move(node, other, k), tree.move(node, other, k));
                    sameTree("wrap(" + node + ", " + k + ", " + other + ", c)",
                            model.wrap(node, k, other, 'c'), tree.wrap(node, k, other, 'c'));
                }
            }
        }
    }

    // ---- every short text of the signs that matter

    private static void readEachText(String begun) {
        text = begun;
        renew();
        is("the tree of the text " + begun, model.text(), tree);
        if (begun.length() < MOST_SIGNS) {
            readEachText(begun + 'z');
            readEachText(begun + '(');
            readEachText(begun + ')');
            readEachText(begun + '{');
        }
    }
}
