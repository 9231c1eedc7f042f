import java.util.ArrayList;
import java.util.List;

/**
 * What is refused: each error and each NONE of every call, the order of the checks where several
 * errors can apply, every number that is no node, every sign that is no label, and that none of
 * these calls changes anything.
 */
public final class RefusalTests extends TreeTest {
    /** A call with one argument left open. */
    private interface Call {
        int on(BracketTree tree, int value);
    }

    /** A call that is refused, and its answer. */
    private record Refused(String what, int due, Call call) {
    }

    private static final String TYPED = "a(b";
    private static final int WIDTH = 5;

    public static void main(String[] args) {
        numbersThatAreNoNodes();
        numbersThatAreNoPositionsOrBlocks();
        signsThatAreNoLabels();
        argumentsOutOfRange();
        for (Refused refused : ofTheSample()) {
            changesNothing(refused, SAMPLE);
        }
        for (Refused refused : ofTheFullTree()) {
            changesNothing(refused, star(100));
        }
        typingIntoTheFullText();
        undoingNothing();
        questionsChangeNothing();
        Check.close("RefusalTests");
    }

    // ---- numbers and signs

    private static int[] numbersOutside(int count) {
        return new int[] {-1, -2, -3, -4, -5, -100, LEAST, LEAST + 1, LEAST + count, count, count + 1,
            2 * count + 100, 1 << 16, 1 << 30, MOST - count, MOST - 1, MOST};
    }

    // Each call that takes a node, with other arguments that are right, and with ones that are wrong.
    private static List<Call> callsOfNode() {
        return List.of(
                (t, v) -> t.node(v, 0), (t, v) -> t.node(v, 10), (t, v) -> t.node(v, 11),
                (t, v) -> t.child(v, 0), (t, v) -> t.child(v, -1),
                (t, v) -> t.neighbour(v, 0), (t, v) -> t.neighbour(v, 5), (t, v) -> t.neighbour(v, 6),
                (t, v) -> t.ancestorAt(v, 0), (t, v) -> t.ancestorAt(v, -1),
                (t, v) -> t.common(v, 0), (t, v) -> t.common(0, v), (t, v) -> t.common(v, v),
                (t, v) -> t.way(v, 0, -1), (t, v) -> t.way(0, v, 0), (t, v) -> t.way(v, v, -2),
                (t, v) -> t.way(0, v, -2), (t, v) -> t.deepest(v),
                (t, v) -> t.setLabel(v, 'a'), (t, v) -> t.setLabel(v, 'A'),
                (t, v) -> t.labelled(v, 'a'), (t, v) -> t.labelled(v, 'A'),
                (t, v) -> t.select(v, 'a', 0), (t, v) -> t.select(v, 'A', 0), (t, v) -> t.select(v, 'a', -1),
                (t, v) -> t.ancestorWith(v, 'a'), (t, v) -> t.ancestorWith(v, 'A'),
                (t, v) -> t.areEqual(v, 0), (t, v) -> t.areEqual(0, v), (t, v) -> t.areEqual(v, v),
                (t, v) -> t.copies(v),
                (t, v) -> t.insert(v, 0, 'a'), (t, v) -> t.insert(v, -1, 'a'), (t, v) -> t.insert(v, 0, 'A'),
                (t, v) -> t.wrap(v, 0, 0, 'a'), (t, v) -> t.wrap(v, -1, 0, 'a'),
                (t, v) -> t.wrap(v, 0, -1, 'a'), (t, v) -> t.wrap(v, 0, 0, 'A'),
                (t, v) -> t.remove(v), (t, v) -> t.cut(v),
                (t, v) -> t.move(v, 0, 0), (t, v) -> t.move(0, v, 0), (t, v) -> t.move(v, v, 0),
                (t, v) -> t.move(v, 0, -1), (t, v) -> t.move(0, v, -1));
    }

    private static void numbersThatAreNoNodes() {
        String[] texts = {"a", "a(b)", SAMPLE, star(100), chain(90)};
        for (String text : texts) {
            int number = 0;
            for (Call call : callsOfNode()) {
                BracketTree tree = made(text);
                for (int node : numbersOutside(tree.size())) {
                    Check.due("node call " + number + " of " + node + " in " + text, UNKNOWN, call.on(tree, node));
                }
                Check.due("no edit by node call " + number, 0, tree.undo());
                number++;
            }
        }
    }

    private static void numbersThatAreNoPositionsOrBlocks() {
        int[] counts = {1, 2, 10, 99, 100};
        for (int n : counts) {
            BracketTree tree = n == 1 ? new BracketTree() : made(star(n));
            for (int position : numbersOutside(2 * n)) {
                Check.due("bracket(" + position + ", 0)", UNKNOWN, tree.bracket(position, 0));
                Check.due("bracket(" + position + ", 4)", UNKNOWN, tree.bracket(position, 4));
                Check.due("bracket(" + position + ", 5)", UNKNOWN, tree.bracket(position, 5));
            }
            for (int block : numbersOutside((2 * n + 7) / 8)) {
                Check.due("block(" + block + ", 0)", UNKNOWN, tree.block(block, 0));
                Check.due("block(" + block + ", 3)", UNKNOWN, tree.block(block, 3));
                Check.due("block(" + block + ", 4)", UNKNOWN, tree.block(block, 4));
            }
        }
        // Numbers whose product with the width comes back into the range when it wraps around.
        int[] widths = {4, 8, 16, 32};
        for (int width : widths) {
            BracketTree tree = made(star(100));
            tree.setWidth(width);
            for (int shift = 24; shift < 32; shift++) {
                Check.due("block(1 << " + shift + ", 0)", UNKNOWN, tree.block(1 << shift, 0));
                Check.due("block(1 + (1 << " + shift + "), 1)", UNKNOWN, tree.block(1 + (1 << shift), 1));
            }
        }
    }

    private static List<Call> callsOfLabel() {
        return List.of(
                (t, v) -> t.setLabel(0, (char) v), (t, v) -> t.labelled(0, (char) v),
                (t, v) -> t.select(0, (char) v, 0), (t, v) -> t.select(0, (char) v, -1),
                (t, v) -> t.ancestorWith(1, (char) v), (t, v) -> t.insert(0, 0, (char) v),
                (t, v) -> t.insert(0, -1, (char) v), (t, v) -> t.wrap(0, 0, 1, (char) v));
    }

    private static void signsThatAreNoLabels() {
        List<Call> calls = callsOfLabel();
        for (int sign = 0; sign < 65536; sign++) {
            boolean near = sign < 1024 || sign > 65000 || sign % 256 == 'a' || sign % 256 == 'z';
            if (near && (sign < 'a' || sign > 'z')) {
                BracketTree tree = made("a(b)");
                for (int i = 0; i < calls.size(); i++) {
                    Check.due("label call " + i + " with sign " + sign, BAD_VALUE, calls.get(i).on(tree, sign));
                }
                Check.due("no edit with sign " + sign, 0, tree.undo());
            }
        }
    }

    // ---- other arguments

    private static void outOfRange(String what, Call call, int least, int greatest) {
        BracketTree tree = made(SAMPLE);
        int[] values = {least - 1, least - 2, -100, LEAST, LEAST + 1, greatest + 1, greatest + 2,
            1 << 30, MOST - 1, MOST};
        for (int value : values) {
            if (value < least || value > greatest) {
                Check.due(what + " of " + value, BAD_VALUE, call.on(tree, value));
            }
        }
        Check.due(what + " least", 1, call.on(made(SAMPLE), least) != BAD_VALUE ? 1 : 0);
        Check.due(what + " greatest", 1, call.on(made(SAMPLE), greatest) != BAD_VALUE ? 1 : 0);
    }

    private static void argumentsOutOfRange() {
        outOfRange("written", (t, v) -> t.written(v), -1, MOST);
        outOfRange("node's property", (t, v) -> t.node(9, v), 0, 10);
        outOfRange("child", (t, v) -> t.child(0, v), 0, MOST);
        outOfRange("child of a leaf", (t, v) -> t.child(9, v), 0, MOST);
        outOfRange("neighbour", (t, v) -> t.neighbour(0, v), 0, 5);
        outOfRange("ancestorAt", (t, v) -> t.ancestorAt(5, v), 0, 2);
        outOfRange("ancestorAt of the root", (t, v) -> t.ancestorAt(0, v), 0, 0);
        outOfRange("place of a way", (t, v) -> t.way(5, 9, v), -1, MOST);
        outOfRange("depth of level", (t, v) -> t.level(v, 0), 0, MOST);
        outOfRange("depth of level's number", (t, v) -> t.level(v, -1), 0, MOST);
        outOfRange("place in level", (t, v) -> t.level(1, v), -1, MOST);
        outOfRange("place in an empty level", (t, v) -> t.level(50, v), -1, MOST);
        outOfRange("byPostorder", (t, v) -> t.byPostorder(v), 0, 9);
        outOfRange("bracket's property", (t, v) -> t.bracket(19, v), 0, 4);
        outOfRange("width", (t, v) -> t.setWidth(v), 4, 32);
        outOfRange("block's property", (t, v) -> t.block(2, v), 0, 3);
        outOfRange("space", (t, v) -> t.space(v), 0, 4);
        outOfRange("select", (t, v) -> t.select(0, 'c', v), 0, MOST);
        outOfRange("select of none", (t, v) -> t.select(0, 'z', v), 0, MOST);
        outOfRange("insert's place", (t, v) -> t.insert(0, v, 'x'), 0, 4);
        outOfRange("insert's place below a leaf", (t, v) -> t.insert(9, v, 'x'), 0, 0);
        outOfRange("wrap's first", (t, v) -> t.wrap(0, v, 0, 'x'), 0, 4);
        outOfRange("wrap's first for one", (t, v) -> t.wrap(0, v, 1, 'x'), 0, 3);
        outOfRange("wrap's number", (t, v) -> t.wrap(0, 0, v, 'x'), 0, 4);
        outOfRange("wrap's number behind first", (t, v) -> t.wrap(0, 3, v, 'x'), 0, 1);
        outOfRange("wrap's number behind the last", (t, v) -> t.wrap(0, 4, v, 'x'), 0, 0);
        outOfRange("wrap's both", (t, v) -> t.wrap(0, v, v, 'x'), 0, 2);
        outOfRange("move's place", (t, v) -> t.move(1, 6, v), 0, 2);
        outOfRange("move's place among its siblings", (t, v) -> t.move(1, 0, v), 0, 3);
        outOfRange("move's place below a leaf", (t, v) -> t.move(1, 9, v), 0, 0);
    }

    // ---- a refused call changes nothing

    private static Refused refused(String what, int due, Call call) {
        return new Refused(what, due, call);
    }

    private static List<Refused> ofTheSample() {
        List<Refused> all = new ArrayList<>(questionsRefused());
        all.add(refused("read a faulty text", -103, (t, v) -> t.read()));
        all.add(refused("setWidth(3)", BAD_VALUE, (t, v) -> t.setWidth(3)));
        all.add(refused("setWidth(33)", BAD_VALUE, (t, v) -> t.setWidth(33)));
        all.add(refused("setLabel(10, a)", UNKNOWN, (t, v) -> t.setLabel(10, 'a')));
        all.add(refused("setLabel(0, A)", BAD_VALUE, (t, v) -> t.setLabel(0, 'A')));
        all.add(refused("insert(10, 0, a)", UNKNOWN, (t, v) -> t.insert(10, 0, 'a')));
        all.add(refused("insert(0, 5, a)", BAD_VALUE, (t, v) -> t.insert(0, 5, 'a')));
        all.add(refused("insert(0, -1, a)", BAD_VALUE, (t, v) -> t.insert(0, -1, 'a')));
        all.add(refused("insert(0, 0, A)", BAD_VALUE, (t, v) -> t.insert(0, 0, 'A')));
        all.add(refused("wrap(10, 0, 0, a)", UNKNOWN, (t, v) -> t.wrap(10, 0, 0, 'a')));
        all.add(refused("wrap(0, 5, 0, a)", BAD_VALUE, (t, v) -> t.wrap(0, 5, 0, 'a')));
        all.add(refused("wrap(0, 1, 4, a)", BAD_VALUE, (t, v) -> t.wrap(0, 1, 4, 'a')));
        all.add(refused("wrap(0, 0, 0, A)", BAD_VALUE, (t, v) -> t.wrap(0, 0, 0, 'A')));
        all.add(refused("remove(10)", UNKNOWN, (t, v) -> t.remove(10)));
        all.add(refused("remove(0)", NOT_POSSIBLE, (t, v) -> t.remove(0)));
        all.add(refused("cut(10)", UNKNOWN, (t, v) -> t.cut(10)));
        all.add(refused("cut(0)", NOT_POSSIBLE, (t, v) -> t.cut(0)));
        all.add(refused("move(10, 0, 0)", UNKNOWN, (t, v) -> t.move(10, 0, 0)));
        all.add(refused("move(1, 10, 0)", UNKNOWN, (t, v) -> t.move(1, 10, 0)));
        all.add(refused("move(0, 10, -1)", UNKNOWN, (t, v) -> t.move(0, 10, -1)));
        all.add(refused("move(0, 1, 0)", NOT_POSSIBLE, (t, v) -> t.move(0, 1, 0)));
        all.add(refused("move(1, 1, 0)", NOT_POSSIBLE, (t, v) -> t.move(1, 1, 0)));
        all.add(refused("move(1, 3, 9)", NOT_POSSIBLE, (t, v) -> t.move(1, 3, 9)));
        all.add(refused("move(0, 0, -1)", NOT_POSSIBLE, (t, v) -> t.move(0, 0, -1)));
        all.add(refused("move(1, 0, 4)", BAD_VALUE, (t, v) -> t.move(1, 0, 4)));
        all.add(refused("move(1, 4, 2)", BAD_VALUE, (t, v) -> t.move(1, 4, 2)));
        all.add(refused("move(1, 4, -1)", BAD_VALUE, (t, v) -> t.move(1, 4, -1)));
        return all;
    }

    private static List<Refused> questionsRefused() {
        return List.of(
                refused("written(-2)", BAD_VALUE, (t, v) -> t.written(-2)),
                refused("written(18)", NONE, (t, v) -> t.written(18)),
                refused("node(10, 11)", UNKNOWN, (t, v) -> t.node(10, 11)),
                refused("node(0, 11)", BAD_VALUE, (t, v) -> t.node(0, 11)),
                refused("node(0, 1)", NONE, (t, v) -> t.node(0, 1)),
                refused("child(10, -1)", UNKNOWN, (t, v) -> t.child(10, -1)),
                refused("child(9, -1)", BAD_VALUE, (t, v) -> t.child(9, -1)),
                refused("child(9, 0)", NONE, (t, v) -> t.child(9, 0)),
                refused("neighbour(10, 6)", UNKNOWN, (t, v) -> t.neighbour(10, 6)),
                refused("neighbour(0, 6)", BAD_VALUE, (t, v) -> t.neighbour(0, 6)),
                refused("neighbour(0, 0)", NONE, (t, v) -> t.neighbour(0, 0)),
                refused("ancestorAt(10, -1)", UNKNOWN, (t, v) -> t.ancestorAt(10, -1)),
                refused("ancestorAt(1, 2)", BAD_VALUE, (t, v) -> t.ancestorAt(1, 2)),
                refused("common(0, 10)", UNKNOWN, (t, v) -> t.common(0, 10)),
                refused("way(0, 10, -2)", UNKNOWN, (t, v) -> t.way(0, 10, -2)),
                refused("way(0, 9, -2)", BAD_VALUE, (t, v) -> t.way(0, 9, -2)),
                refused("way(0, 9, 2)", NONE, (t, v) -> t.way(0, 9, 2)),
                refused("level(-1, 9)", BAD_VALUE, (t, v) -> t.level(-1, 9)),
                refused("level(9, -2)", BAD_VALUE, (t, v) -> t.level(9, -2)),
                refused("level(1, 4)", NONE, (t, v) -> t.level(1, 4)),
                refused("byPostorder(10)", BAD_VALUE, (t, v) -> t.byPostorder(10)),
                refused("deepest(10)", UNKNOWN, (t, v) -> t.deepest(10)),
                refused("bracket(20, 5)", UNKNOWN, (t, v) -> t.bracket(20, 5)),
                refused("bracket(0, 5)", BAD_VALUE, (t, v) -> t.bracket(0, 5)),
                refused("bracket(0, 3)", NONE, (t, v) -> t.bracket(0, 3)),
                refused("block(4, 4)", UNKNOWN, (t, v) -> t.block(4, 4)),
                refused("block(3, 4)", BAD_VALUE, (t, v) -> t.block(3, 4)),
                refused("space(5)", BAD_VALUE, (t, v) -> t.space(5)),
                refused("labelled(10, A)", UNKNOWN, (t, v) -> t.labelled(10, 'A')),
                refused("labelled(0, A)", BAD_VALUE, (t, v) -> t.labelled(0, 'A')),
                refused("select(10, A, -1)", UNKNOWN, (t, v) -> t.select(10, 'A', -1)),
                refused("select(0, z, -1)", BAD_VALUE, (t, v) -> t.select(0, 'z', -1)),
                refused("select(0, A, 9)", BAD_VALUE, (t, v) -> t.select(0, 'A', 9)),
                refused("select(0, c, 4)", NONE, (t, v) -> t.select(0, 'c', 4)),
                refused("ancestorWith(10, A)", UNKNOWN, (t, v) -> t.ancestorWith(10, 'A')),
                refused("ancestorWith(0, A)", BAD_VALUE, (t, v) -> t.ancestorWith(0, 'A')),
                refused("ancestorWith(0, a)", NONE, (t, v) -> t.ancestorWith(0, 'a')),
                refused("areEqual(10, 0)", UNKNOWN, (t, v) -> t.areEqual(10, 0)),
                refused("copies(10)", UNKNOWN, (t, v) -> t.copies(10)));
    }

    // In a full tree: what has no room, and what is refused before the room is looked at.
    private static List<Refused> ofTheFullTree() {
        return List.of(
                refused("insert(0, 99, a)", FULL, (t, v) -> t.insert(0, 99, 'a')),
                refused("insert(99, 0, z)", FULL, (t, v) -> t.insert(99, 0, 'z')),
                refused("wrap(0, 0, 99, a)", FULL, (t, v) -> t.wrap(0, 0, 99, 'a')),
                refused("wrap(0, 99, 0, z)", FULL, (t, v) -> t.wrap(0, 99, 0, 'z')),
                refused("insert(0, 100, a)", BAD_VALUE, (t, v) -> t.insert(0, 100, 'a')),
                refused("insert(0, 0, A)", BAD_VALUE, (t, v) -> t.insert(0, 0, 'A')),
                refused("insert(100, 0, a)", UNKNOWN, (t, v) -> t.insert(100, 0, 'a')),
                refused("wrap(0, 1, 99, a)", BAD_VALUE, (t, v) -> t.wrap(0, 1, 99, 'a')),
                refused("wrap(0, 100, 0, a)", BAD_VALUE, (t, v) -> t.wrap(0, 100, 0, 'a')),
                refused("wrap(0, 0, 0, A)", BAD_VALUE, (t, v) -> t.wrap(0, 0, 0, 'A')),
                refused("wrap(100, 0, 0, a)", UNKNOWN, (t, v) -> t.wrap(100, 0, 0, 'a')));
    }

    // The history is full, so that a refused call that was recorded would push a tree out.
    private static BracketTree witness(String text) {
        BracketTree tree = new BracketTree();
        for (int i = 1; i <= 14; i++) {
            tree.setLabel(0, (char) ('a' + i));
        }
        typeAll(tree, text);
        tree.read();
        tree.clearText();
        typeAll(tree, TYPED);
        tree.setWidth(WIDTH);
        return tree;
    }

    private static void isUnchanged(String what, String text, BracketTree tree) {
        is(what + " leaves the tree that", text, tree);
        Check.due(what + " leaves the width", WIDTH, tree.setWidth(WIDTH));
        Check.due(what + " leaves the text", -100 - TYPED.length(), tree.read());
        Check.due(what + " leaves the text's length", TYPED.length(), tree.clearText());
        for (int left = 14; left >= 0; left--) {
            Check.due(what + " leaves the history", left, tree.undo());
            Check.due(what + " leaves its trees", 'a' + left, tree.node(0, 10));
        }
        Check.due(what + " adds nothing to the history", NONE, tree.undo());
        is(what + " leaves the oldest tree that", "a", tree);
    }

    private static void changesNothing(Refused refused, String text) {
        BracketTree tree = witness(text);
        Check.due(refused.what(), refused.due(), refused.call().on(tree, 0));
        Check.due(refused.what() + " again", refused.due(), refused.call().on(tree, 0));
        isUnchanged(refused.what(), text, tree);
    }

    private static void typingIntoTheFullText() {
        BracketTree tree = new BracketTree();
        typeAll(tree, "z(" + repeat("y", 298));
        char[] signs = {')', 'a', (char) 0, (char) 65535};
        for (char sign : signs) {
            Check.due("type into a full text", FULL, tree.type(sign));
            Check.due("its fault stays", -100 - 101, tree.read());
        }
        is("the tree stays", "a", tree);
        Check.due("nothing to undo", NONE, tree.undo());
        Check.due("its length stays", 300, tree.clearText());
    }

    private static void undoingNothing() {
        BracketTree tree = new BracketTree();
        typeAll(tree, TYPED);
        tree.setWidth(WIDTH);
        Check.due("undo of nothing", NONE, tree.undo());
        Check.due("undo of nothing again", NONE, tree.undo());
        is("undo of nothing leaves the tree", "a", tree);
        Check.due("undo of nothing leaves the width", WIDTH, tree.setWidth(WIDTH));
        Check.due("undo of nothing leaves the text", TYPED.length(), tree.clearText());
        tree.setLabel(0, 'b');
        Check.due("undo of something", 0, tree.undo());
        is("undo of something", "a", tree);
    }

    // ---- questions that are answered change nothing either

    private static void questionsChangeNothing() {
        List<Call> questions = List.of(
                (t, v) -> t.size(), (t, v) -> t.written(v), (t, v) -> t.written(-1), (t, v) -> t.node(v, v),
                (t, v) -> t.child(0, v), (t, v) -> t.neighbour(v, 4), (t, v) -> t.ancestorAt(v, 1),
                (t, v) -> t.common(v, 5), (t, v) -> t.way(v, 9, -1), (t, v) -> t.way(9, v, 1),
                (t, v) -> t.level(1, v), (t, v) -> t.level(v, -1), (t, v) -> t.byPostorder(v),
                (t, v) -> t.deepest(v), (t, v) -> t.bracket(v, 2), (t, v) -> t.bracket(2 * v, 3),
                (t, v) -> t.block(v, 1), (t, v) -> t.block(v, 2), (t, v) -> t.space(v),
                (t, v) -> t.labelled(v, 'c'), (t, v) -> t.select(0, 'c', v), (t, v) -> t.ancestorWith(v, 'a'),
                (t, v) -> t.areEqual(1, v), (t, v) -> t.copies(v));
        int number = 0;
        for (Call question : questions) {
            BracketTree tree = witness(SAMPLE);
            for (int value = 0; value < 10; value++) {
                int first = question.on(tree, value);
                Check.due("question " + number + " of " + value + " again", first, question.on(tree, value));
            }
            isUnchanged("question " + number, SAMPLE, tree);
            number++;
        }
    }
}
