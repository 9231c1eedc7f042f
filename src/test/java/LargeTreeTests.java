import java.util.ArrayList;
import java.util.List;
import java.util.function.ToIntFunction;

/**
 * Trees of up to 100 nodes in the shapes that lie farthest apart, with every question to every node
 * and edits all over them, against the model. What a tree of few nodes can't show, long rows of
 * siblings and great depths among them, shows here.
 */
public final class LargeTreeTests extends TreeTest {
    private static final int CALLS = 512;
    // With 5, some trees here end in a block of a single position.
    private static final int[] WIDTHS = {4, 5, 7, 8, 31, 32};
    private static final char[] LABELS = {'a', 'b', 'c', 'z', '{'};

    private static List<Integer> parents;
    private static List<Character> labels;
    private static String shape;
    private static BracketTree tree;
    private static ModelTree model;
    private static int width;
    private static int played;

    public static void main(String[] args) {
        play("a chain", chainOf(100), 2);
        play("a star", starOf(100), 3);
        play("a comb", combOf(100), 2);
        play("a full binary tree", heapOf(63, 2), 1);
        play("a tree of threes", heapOf(100, 3), 2);
        play("two chains", forkOf(99), 1);
        play("a broom", broomOf(100), 2);
        for (int seed = 1; seed <= 3; seed++) {
            play("scattered tree " + seed, scattered(seed, 97 + seed), 2);
        }
        Check.close("LargeTreeTests");
    }

    // ---- shapes: the parent of each node, whose number may be any lower one's

    private static int[] chainOf(int n) {
        int[] above = new int[n];
        for (int i = 1; i < n; i++) {
            above[i] = i - 1;
        }
        return above;
    }

    private static int[] starOf(int n) {
        return new int[n];
    }

    private static int[] combOf(int n) {
        int[] above = new int[n];
        for (int i = 1; i < n; i++) {
            above[i] = i % 2 == 1 ? Math.max(0, i - 1) : i - 2;
        }
        return above;
    }

    private static int[] heapOf(int n, int children) {
        int[] above = new int[n];
        for (int i = 1; i < n; i++) {
            above[i] = (i - 1) / children;
        }
        return above;
    }

    private static int[] forkOf(int n) {
        int[] above = chainOf(n);
        above[n / 2 + 1] = 0;
        return above;
    }

    private static int[] broomOf(int n) {
        int[] above = chainOf(n);
        for (int i = n / 2; i < n; i++) {
            above[i] = n / 2 - 1;
        }
        return above;
    }

    private static int[] scattered(int seed, int n) {
        long state = seed * 2654435761L + 12345;
        int[] above = new int[n];
        for (int i = 1; i < n; i++) {
            state = state * 6364136223846793005L + 1442695040888963407L;
            int reach = seed == 1 ? i : Math.min(i, 2 * seed);
            above[i] = i - 1 - (int) ((state >>> 33) % reach);
        }
        return above;
    }

    // In preorder, so that each insertion comes behind the nodes that stand already.
    private static void arrange(int[] above, int node, int parent, int kinds) {
        int number = parents.size();
        parents.add(parent);
        labels.add((char) ('a' + number % kinds));
        for (int below = node + 1; below < above.length; below++) {
            if (above[below] == node) {
                arrange(above, below, number, kinds);
            }
        }
    }

    // ---- the tree in the program and in the model

    private static void renew() {
        tree = new BracketTree();
        tree.setLabel(0, labels.get(0));
        int[] children = new int[parents.size()];
        for (int i = 1; i < parents.size(); i++) {
            int parent = parents.get(i);
            Check.due("building " + shape, i, tree.insert(parent, children[parent]++, labels.get(i)));
        }
        tree.setWidth(width);
        played = parents.size() + 1;
    }

    private static void renewModel() {
        model = new ModelTree();
        model.setLabel(0, labels.get(0));
        for (int i = 1; i < parents.size(); i++) {
            int parent = parents.get(i);
            model.insert(parent, model.node(parent, 2), labels.get(i));
        }
        model.setWidth(width);
    }

    private static void ask(String what, int want, ToIntFunction<BracketTree> call) {
        if (played >= CALLS) {
            renew();
        }
        played++;
        Check.due(what + " in " + shape, want, call.applyAsInt(tree));
    }

    private static void play(String name, int[] above, int kinds) {
        parents = new ArrayList<>();
        labels = new ArrayList<>();
        arrange(above, 0, -1, kinds);
        shape = name;
        width = 8;
        renew();
        renewModel();
        int n = parents.size();
        askOfAll(n);
        for (int node = -1; node <= n; node++) {
            askOfNode(node, n);
            askOfLabels(node);
            askOfPairs(node, n);
        }
        askOfPositions(n);
        editEach(n);
        moveAll(n);
    }

    // ---- questions

    private static void askOfAll(int n) {
        ask("size()", n, t -> t.size());
        int length = model.written(-1);
        for (int i = -2; i <= length + 1; i++) {
            int k = i;
            ask("written(" + k + ")", model.written(k), t -> t.written(k));
        }
        for (int i = -1; i <= n; i++) {
            int depth = i;
            ask("byPostorder(" + depth + ")", model.byPostorder(depth), t -> t.byPostorder(depth));
            int many = Math.max(0, model.level(depth, -1));
            for (int j = -2; j <= many; j++) {
                int k = j;
                ask("level(" + depth + ", " + k + ")", model.level(depth, k), t -> t.level(depth, k));
            }
        }
    }

    private static void askOfNode(int node, int n) {
        for (int i = -1; i <= 11; i++) {
            int what = i;
            ask("node(" + node + ", " + what + ")", model.node(node, what), t -> t.node(node, what));
            ask("neighbour(" + node + ", " + what + ")",
                    model.neighbour(node, what), t -> t.neighbour(node, what));
        }
        for (int i = -1; i <= Math.max(0, model.node(node, 2)); i++) {
            int k = i;
            ask("child(" + node + ", " + k + ")", model.child(node, k), t -> t.child(node, k));
        }
        for (int i = -1; i <= Math.max(0, model.node(node, 0)) + 1; i++) {
            int depth = i;
            ask("ancestorAt(" + node + ", " + depth + ")",
                    model.ancestorAt(node, depth), t -> t.ancestorAt(node, depth));
        }
        ask("deepest(" + node + ")", model.deepest(node), t -> t.deepest(node));
        ask("copies(" + node + ")", model.copies(node), t -> t.copies(node));
    }

    private static void askOfLabels(int node) {
        for (char label : LABELS) {
            int many = model.labelled(node, label);
            ask("labelled(" + node + ", " + label + ")", many, t -> t.labelled(node, label));
            for (int i = -1; i <= Math.max(0, many); i++) {
                int k = i;
                ask("select(" + node + ", " + label + ", " + k + ")",
                        model.select(node, label, k), t -> t.select(node, label, k));
            }
            ask("ancestorWith(" + node + ", " + label + ")",
                    model.ancestorWith(node, label), t -> t.ancestorWith(node, label));
        }
    }

    private static void askOfPairs(int node, int n) {
        for (int i = -1; i <= n; i++) {
            int other = i;
            String both = node + ", " + other;
            ask("common(" + both + ")", model.common(node, other), t -> t.common(node, other));
            ask("areEqual(" + both + ")", model.areEqual(node, other), t -> t.areEqual(node, other));
            int steps = model.way(node, other, -1);
            ask("way(" + both + ", -1)", steps, t -> t.way(node, other, -1));
            // Each place of each way would take minutes; a few of each are enough for every turn.
            for (int k = (node + other) % 9; steps >= 0 && k <= steps + 9; k += 9) {
                int place = Math.min(Math.max(k, 0), steps + 1);
                ask("way(" + both + ", " + place + ")",
                        model.way(node, other, place), t -> t.way(node, other, place));
            }
        }
    }

    private static void askOfPositions(int n) {
        for (int i = -1; i <= 2 * n; i++) {
            int position = i;
            for (int j = -1; j <= 5; j++) {
                int what = j;
                ask("bracket(" + position + ", " + what + ")",
                        model.bracket(position, what), t -> t.bracket(position, what));
            }
        }
        for (int newWidth : WIDTHS) {
            width = newWidth;
            model.setWidth(width);
            renew();
            for (int i = -1; i <= 5; i++) {
                int what = i;
                ask("space(" + what + ") of " + width, model.space(what), t -> t.space(what));
            }
            for (int i = -1; i <= model.space(4); i++) {
                askOfBlock(i);
            }
        }
    }

    private static void askOfBlock(int block) {
        for (int i = -1; i <= 4; i++) {
            int what = i;
            ask("block(" + block + ", " + what + ") of " + width,
                    model.block(block, what), t -> t.block(block, what));
        }
    }

    // ---- edits: the answer, the tree that is left, and the tree that comes back

    private static void edit(String what, int want, ToIntFunction<BracketTree> call) {
        renew();
        Check.due(what + " in " + shape, want, call.applyAsInt(tree));
        is(what + " in " + shape, model.text(), tree);
        if (want >= 0) {
            model.undo();
            tree.undo();
            Check.due("undone " + what + " in " + shape, model.written(-1), tree.written(-1));
            Check.due("undone size of " + what + " in " + shape, model.size(), tree.size());
        }
    }

    private static void editEach(int n) {
        for (int i = 0; i <= n; i++) {
            int node = i;
            edit("remove(" + node + ")", model.remove(node), t -> t.remove(node));
            edit("cut(" + node + ")", model.cut(node), t -> t.cut(node));
            edit("setLabel(" + node + ", x)", model.setLabel(node, 'x'), t -> t.setLabel(node, 'x'));
            int children = Math.max(0, model.node(node, 2));
            for (int j = -1; j <= children + 1; j++) {
                int k = j;
                edit("insert(" + node + ", " + k + ", x)",
                        model.insert(node, k, 'x'), t -> t.insert(node, k, 'x'));
            }
            wrapBelow(node, children);
        }
    }

    private static void wrapBelow(int node, int children) {
        for (int i = 0; i <= children; i += 1 + children / 9) {
            int first = i;
            for (int j = -1; j <= children - first + 1; j += 1 + children / 7) {
                int many = j;
                edit("wrap(" + node + ", " + first + ", " + many + ", x)",
                        model.wrap(node, first, many, 'x'), t -> t.wrap(node, first, many, 'x'));
            }
        }
    }

    private static void moveAll(int n) {
        for (int i = 0; i < n; i++) {
            int node = i;
            for (int j = node % 5; j < n; j += 5) {
                int parent = j;
                int children = model.node(parent, 2);
                for (int k = -1; k <= children + 1; k += 1 + children / 5) {
                    int place = k;
                    edit("move(" + node + ", " + parent + ", " + place + ")",
                            model.move(node, parent, place), t -> t.move(node, parent, place));
                }
            }
        }
    }
}
