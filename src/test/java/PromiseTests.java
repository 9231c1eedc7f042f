/** Each promise by hand: ordinary inputs, the edges that the document names, wrong inputs. */
public final class PromiseTests extends TreeTest {
    public static void main(String[] args) {
        constants();
        promise1NewObject();
        promise2Type();
        promise3ClearText();
        promise4Read();
        promise4ReadFaults();
        promise4ReadLimits();
        promise5Written();
        promise6Size();
        promise7Node();
        promise8Child();
        promise9Neighbour();
        promise10AncestorAt();
        promise11Common();
        promise12Way();
        promise13Level();
        promise14ByPostorder();
        promise15Deepest();
        promise16Bracket();
        promise17SetWidth();
        promise18Block();
        promise19Space();
        promise20SetLabel();
        promise21Labelled();
        promise22Select();
        promise23AncestorWith();
        promise24AreEqual();
        promise25Copies();
        promise26Insert();
        promise27Wrap();
        promise28Remove();
        promise29Cut();
        promise30Move();
        promise31Undo();
        errorsChangeNothing();
        readmesExample();
        Check.close("PromiseTests");
    }

    // ---- promises

    private static void constants() {
        Check.due("UNKNOWN", -1, BracketTree.UNKNOWN);
        Check.due("BAD_VALUE", -2, BracketTree.BAD_VALUE);
        Check.due("NOT_POSSIBLE", -3, BracketTree.NOT_POSSIBLE);
        Check.due("FULL", -4, BracketTree.FULL);
        Check.due("NONE", -5, BracketTree.NONE);
    }

    private static void promise1NewObject() {
        BracketTree tree = new BracketTree();
        is("a new tree", "a", tree);
        Check.due("new size", 1, tree.size());
        Check.due("new label", 'a', tree.node(0, 10));
        Check.due("new text", 0, tree.clearText());
        Check.due("new history", NONE, tree.undo());
        Check.due("new width", 8, tree.setWidth(9));
        BracketTree other = new BracketTree();
        tree.insert(0, 0, 'b');
        tree.type('z');
        is("another object", "a", other);
        Check.due("another object's text", 0, other.clearText());
        Check.due("another object's width", 8, other.setWidth(8));
    }

    private static void promise2Type() {
        BracketTree tree = new BracketTree();
        char[] any = {'a', '(', ')', 'Z', ' ', '\0', '\n', (char) 233, (char) 65535};
        for (int i = 0; i < any.length; i++) {
            Check.due("type any character " + i, i + 1, tree.type(any[i]));
        }
        for (int i = any.length; i < 300; i++) {
            Check.due("type character " + i, i + 1, tree.type('x'));
        }
        Check.due("type the 301st", FULL, tree.type('a'));
        Check.due("type the 302nd", FULL, tree.type((char) 0));
        Check.due("the full text stays", 300, tree.clearText());
        Check.due("type after clearing", 1, tree.type('b'));
        Check.due("read what was typed after clearing", 1, tree.read());
        is("typed after clearing", "b", tree);
    }

    private static void promise3ClearText() {
        BracketTree tree = new BracketTree();
        Check.due("clear nothing", 0, tree.clearText());
        typeAll(tree, "a(bc)");
        Check.due("clear five", 5, tree.clearText());
        Check.due("clear again", 0, tree.clearText());
        Check.due("read the empty text", -100, tree.read());
        is("clearing leaves the tree", "a", tree);
        Check.due("clearing is no edit", NONE, tree.undo());
    }

    private static void promise4Read() {
        BracketTree tree = made(SAMPLE);
        Check.due("sample size", 10, tree.size());
        is("sample", SAMPLE, tree);
        Check.due("the text stays", SAMPLE.length(), tree.clearText());
        typeAll(tree, "z");
        Check.due("read a single letter", 1, tree.read());
        Check.due("read it again", 1, tree.read());
        is("single letter", "z", tree);
        Check.due("each reading is an edit", 2, tree.undo());
        Check.due("each reading is an edit", 1, tree.undo());
        is("undone readings", SAMPLE, tree);
        Check.due("the text stays at undo", 1, tree.clearText());
        tree.clearText();
        typeAll(tree, "abc");
        tree.clearText();
        typeAll(tree, "y");
        Check.due("read nothing of the cleared text", 1, tree.read());
        is("nothing of the cleared text", "y", tree);
        Check.due("read nested", 4, readingOf("a(b(c(d)))"));
        Check.due("read a list behind a list", 5, readingOf("a(b(c)d(e))"));
    }

    private static void promise4ReadFaults() {
        Check.due("empty", -100, readingOf(""));
        Check.due("capital", -100, readingOf("A"));
        Check.due("before a", -100, readingOf("`"));
        Check.due("behind z", -100, readingOf("{"));
        Check.due("a far character", -100, readingOf("" + (char) (65536 - 1)));
        Check.due("a letter and 256", -100, readingOf("" + (char) ('a' + 256)));
        Check.due("starts with (", -100, readingOf("(a)"));
        Check.due("starts with )", -100, readingOf(")"));
        Check.due("two trees", -101, readingOf("ab"));
        Check.due("closes nothing", -101, readingOf("a)"));
        Check.due("empty parentheses", -102, readingOf("a()"));
        Check.due("doubled (", -102, readingOf("a((b))"));
        Check.due("( behind )", -104, readingOf("a(b)(c)"));
        Check.due("( behind ) inside", -106, readingOf("a(b(c)(d))"));
        Check.due("letter behind the tree", -104, readingOf("a(b)c"));
        Check.due(") behind the tree", -104, readingOf("a(b))"));
        Check.due("space behind the tree", -104, readingOf("a(b) "));
        Check.due("space inside", -103, readingOf("a(b c)"));
        Check.due("ends behind (", -102, readingOf("a("));
        Check.due("ends inside", -103, readingOf("a(b"));
        Check.due("ends behind an inner )", -106, readingOf("a(b(c)"));
        Check.due("the first of two faults", -102, readingOf("a(?b!"));
        Check.due("fault before the early end", -103, readingOf("a(b,"));
    }

    private static void promise4ReadLimits() {
        Check.due("a chain of 100", 100, readingOf(chain(100)));
        Check.due("a star of 100", 100, readingOf(star(100)));
        Check.due("a chain of 101", -100 - 200, readingOf(chain(101)));
        Check.due("a star of 101", -100 - 101, readingOf(star(101)));
        Check.due("( behind the 100th letter, then the end", -100 - 200, readingOf(repeat("a(", 100)));
        Check.due("( and ) behind the 100th letter", -100 - 200, readingOf(repeat("a(", 100) + ")"));
        Check.due("another sign at the 101st letter's place", -100 - 101,
                readingOf("a(" + repeat("b", 99) + "?)"));
        Check.due("the 100th letter closes late", -100 - 101, readingOf("a(" + repeat("b", 99)));
        Check.due("300 open characters", -100 - 200, readingOf(repeat("a(", 150)));
        Check.due("300 letters", -101, readingOf(repeat("a", 300)));
        BracketTree tree = made(chain(100));
        for (int node = 0; node < 100; node++) {
            Check.due("depth in the chain of 100", node, tree.node(node, 0));
        }
        Check.due("length of its text", 298, tree.written(-1));
    }

    private static void promise5Written() {
        BracketTree tree = new BracketTree();
        Check.due("length for one node", 1, tree.written(-1));
        Check.due("the only letter", 'a', tree.written(0));
        Check.due("behind the only letter", NONE, tree.written(1));
        tree = made("a(b(c)d)");
        String text = "a(b(c)d)";
        Check.due("length", text.length(), tree.written(-1));
        for (int k = 0; k < text.length(); k++) {
            Check.due("written " + k, text.charAt(k), tree.written(k));
        }
        Check.due("behind the text", NONE, tree.written(text.length()));
        Check.due("far behind the text", NONE, tree.written(MOST));
        Check.due("k of -2", BAD_VALUE, tree.written(-2));
        Check.due("least k", BAD_VALUE, tree.written(LEAST));
        tree.clearText();
        is("written is not the typed text", text, tree);
    }

    private static void promise6Size() {
        BracketTree tree = made(SAMPLE);
        Check.due("size", 10, tree.size());
        tree.insert(0, 0, 'x');
        Check.due("size after insert", 11, tree.size());
        tree.cut(2);
        Check.due("size after cut", 8, tree.size());
        tree.undo();
        Check.due("size after undo", 11, tree.size());
        Check.due("full size", 100, made(star(100)).size());
    }

    private static void promise7Node() {
        BracketTree tree = made(SAMPLE);
        int[][] due = {
            {0, 1, 2, 2, 1, 2, 1, 2, 2, 1},
            {NONE, 0, 1, 1, 0, 4, 0, 6, 6, 0},
            {4, 2, 0, 0, 1, 0, 2, 0, 0, 0},
            {10, 3, 1, 1, 2, 1, 3, 1, 1, 1},
            {2, 1, 0, 0, 1, 0, 1, 0, 0, 0},
            {0, 0, 0, 1, 1, 0, 2, 0, 1, 3},
            {6, 2, 1, 1, 1, 1, 2, 1, 1, 1},
            {0, 1, 2, 4, 7, 8, 11, 12, 14, 17},
            {19, 6, 3, 5, 10, 9, 16, 13, 15, 18},
            {9, 2, 0, 1, 4, 3, 7, 5, 6, 8},
            {'a', 'b', 'c', 'c', 'd', 'e', 'b', 'c', 'c', 'f'},
        };
        for (int what = 0; what < due.length; what++) {
            for (int node = 0; node < 10; node++) {
                Check.due("node(" + node + ", " + what + ")", due[what][node], tree.node(node, what));
            }
        }
        int[] wrong = {-1, 10, 100, LEAST, MOST, NONE};
        for (int node : wrong) {
            Check.due("node(" + node + ", 0)", UNKNOWN, tree.node(node, 0));
            Check.due("node(" + node + ", -1)", UNKNOWN, tree.node(node, -1));
            Check.due("node(" + node + ", 10)", UNKNOWN, tree.node(node, 10));
        }
        int[] wrongWhat = {-1, 11, LEAST, MOST};
        for (int what : wrongWhat) {
            Check.due("node(0, " + what + ")", BAD_VALUE, tree.node(0, what));
            Check.due("node(9, " + what + ")", BAD_VALUE, tree.node(9, what));
        }
        BracketTree deep = made(chain(100));
        Check.due("depth in a chain", 99, deep.node(99, 0));
        Check.due("height of a chain", 99, deep.node(0, 4));
        Check.due("opening in a chain", 99, deep.node(99, 7));
        Check.due("closing in a chain", 199, deep.node(0, 8));
        Check.due("postorder in a chain", 0, deep.node(99, 9));
    }

    private static void promise8Child() {
        BracketTree tree = made(SAMPLE);
        int[] children = {1, 4, 6, 9};
        for (int k = 0; k < children.length; k++) {
            Check.due("child(0, " + k + ")", children[k], tree.child(0, k));
        }
        Check.due("child behind the last", NONE, tree.child(0, 4));
        Check.due("far child", NONE, tree.child(0, MOST));
        Check.due("child of b", 8, tree.child(6, 1));
        Check.due("third child of b", NONE, tree.child(6, 2));
        Check.due("child of a leaf", NONE, tree.child(9, 0));
        Check.due("child -1", BAD_VALUE, tree.child(0, -1));
        Check.due("child -1 of a leaf", BAD_VALUE, tree.child(9, LEAST));
        Check.due("child of no node", UNKNOWN, tree.child(10, 0));
        Check.due("child -1 of no node", UNKNOWN, tree.child(-1, -1));
    }

    private static void promise9Neighbour() {
        BracketTree tree = made(SAMPLE);
        int[][] due = {
            {NONE, 4, 3, NONE, 6, NONE, 9, 8, NONE, NONE},
            {NONE, NONE, NONE, 2, 1, NONE, 4, NONE, 7, 6},
            {NONE, 4, 3, 5, 6, 7, 9, 8, NONE, NONE},
            {NONE, NONE, NONE, 2, 1, 3, 4, 5, 7, 6},
            {2, 2, 3, 5, 5, 7, 7, 8, 9, NONE},
            {1, 2, NONE, NONE, 5, NONE, 7, NONE, NONE, NONE},
        };
        for (int which = 0; which < due.length; which++) {
            for (int node = 0; node < 10; node++) {
                Check.due("neighbour(" + node + ", " + which + ")", due[which][node],
                        tree.neighbour(node, which));
            }
        }
        Check.due("the greatest child behind a smaller one", 2, made("a(bc(d)e(f))").neighbour(0, 5));
        Check.due("greatest by nodes, not by height", 4, made("a(b(c(d))e(fgh))").neighbour(0, 5));
        Check.due("neighbour -1", BAD_VALUE, tree.neighbour(0, -1));
        Check.due("neighbour 6", BAD_VALUE, tree.neighbour(9, 6));
        Check.due("neighbour of no node", UNKNOWN, tree.neighbour(10, 0));
        Check.due("wrong neighbour of no node", UNKNOWN, tree.neighbour(-1, 6));
    }

    private static void promise10AncestorAt() {
        BracketTree tree = made("a(b(c(d)e)f)");
        Check.due("itself", 3, tree.ancestorAt(3, 3));
        Check.due("parent", 2, tree.ancestorAt(3, 2));
        Check.due("grandparent", 1, tree.ancestorAt(3, 1));
        Check.due("root", 0, tree.ancestorAt(3, 0));
        Check.due("past a cousin", 1, tree.ancestorAt(4, 1));
        Check.due("root of f", 0, tree.ancestorAt(5, 0));
        Check.due("root itself", 0, tree.ancestorAt(0, 0));
        Check.due("too deep", BAD_VALUE, tree.ancestorAt(3, 4));
        Check.due("too deep for f", BAD_VALUE, tree.ancestorAt(5, 2));
        Check.due("depth -1", BAD_VALUE, tree.ancestorAt(3, -1));
        Check.due("no node", UNKNOWN, tree.ancestorAt(6, 0));
        Check.due("no node, no depth", UNKNOWN, tree.ancestorAt(-1, -1));
    }

    private static void promise11Common() {
        BracketTree tree = made("a(b(c(d)e)f(g))");
        Check.due("same node", 3, tree.common(3, 3));
        Check.due("same root", 0, tree.common(0, 0));
        Check.due("node and ancestor", 1, tree.common(3, 1));
        Check.due("ancestor and node", 1, tree.common(1, 3));
        Check.due("cousins", 1, tree.common(3, 4));
        Check.due("cousins turned", 1, tree.common(4, 3));
        Check.due("far", 0, tree.common(3, 6));
        Check.due("far turned", 0, tree.common(6, 3));
        Check.due("siblings", 0, tree.common(1, 5));
        Check.due("first unknown", UNKNOWN, tree.common(7, 0));
        Check.due("second unknown", UNKNOWN, tree.common(0, -1));
        Check.due("same unknown", UNKNOWN, tree.common(7, 7));
    }

    private static void promise12Way() {
        BracketTree tree = made("a(b(c(d)e)f(g))");
        int[] due = {3, 2, 1, 0, 5, 6};
        Check.due("steps", 5, tree.way(3, 6, -1));
        for (int k = 0; k < due.length; k++) {
            Check.due("way(3, 6, " + k + ")", due[k], tree.way(3, 6, k));
            Check.due("way(6, 3, " + k + ")", due[5 - k], tree.way(6, 3, k));
        }
        Check.due("behind the way", NONE, tree.way(3, 6, 6));
        Check.due("far behind the way", NONE, tree.way(3, 6, MOST));
        Check.due("steps up", 2, tree.way(3, 1, -1));
        Check.due("up", 1, tree.way(3, 1, 2));
        Check.due("down", 3, tree.way(1, 3, 2));
        Check.due("same node", 0, tree.way(4, 4, -1));
        Check.due("same node first", 4, tree.way(4, 4, 0));
        Check.due("same node second", NONE, tree.way(4, 4, 1));
        Check.due("k of -2", BAD_VALUE, tree.way(3, 6, -2));
        Check.due("least k", BAD_VALUE, tree.way(3, 6, LEAST));
        Check.due("first unknown", UNKNOWN, tree.way(7, 0, 0));
        Check.due("second unknown", UNKNOWN, tree.way(0, 7, -2));
    }

    private static void promise13Level() {
        BracketTree tree = made(SAMPLE);
        Check.due("nodes of depth 0", 1, tree.level(0, -1));
        Check.due("nodes of depth 1", 4, tree.level(1, -1));
        Check.due("nodes of depth 2", 5, tree.level(2, -1));
        Check.due("nodes of depth 3", 0, tree.level(3, -1));
        Check.due("nodes of a far depth", 0, tree.level(MOST, -1));
        int[] due = {2, 3, 5, 7, 8};
        for (int k = 0; k < due.length; k++) {
            Check.due("level(2, " + k + ")", due[k], tree.level(2, k));
        }
        Check.due("root by level", 0, tree.level(0, 0));
        Check.due("behind the level", NONE, tree.level(2, 5));
        Check.due("far behind the level", NONE, tree.level(2, MOST));
        Check.due("below the tree", NONE, tree.level(3, 0));
        Check.due("only one root", NONE, tree.level(0, 1));
        Check.due("depth -1", BAD_VALUE, tree.level(-1, 0));
        Check.due("depth -1 for the number", BAD_VALUE, tree.level(-1, -1));
        Check.due("k of -2", BAD_VALUE, tree.level(0, -2));
        Check.due("k of -2 below the tree", BAD_VALUE, tree.level(9, -2));
    }

    private static void promise14ByPostorder() {
        BracketTree tree = made(SAMPLE);
        int[] due = {2, 3, 1, 5, 4, 7, 8, 6, 9, 0};
        for (int rank = 0; rank < due.length; rank++) {
            Check.due("byPostorder(" + rank + ")", due[rank], tree.byPostorder(rank));
        }
        Check.due("rank n", BAD_VALUE, tree.byPostorder(10));
        Check.due("rank -1", BAD_VALUE, tree.byPostorder(-1));
        Check.due("greatest rank", BAD_VALUE, tree.byPostorder(MOST));
        Check.due("least rank", BAD_VALUE, tree.byPostorder(LEAST));
    }

    private static void promise15Deepest() {
        BracketTree tree = made("a(b(c)d(e(f)g(h)))");
        Check.due("deepest of the root", 5, tree.deepest(0));
        Check.due("deepest of b", 2, tree.deepest(1));
        Check.due("deepest of d", 5, tree.deepest(3));
        Check.due("deepest of g", 7, tree.deepest(6));
        Check.due("deepest of a leaf", 7, tree.deepest(7));
        Check.due("first of several", 1, made("a(bcd)").deepest(0));
        Check.due("deepest of no node", UNKNOWN, tree.deepest(8));
        Check.due("deepest of -1", UNKNOWN, tree.deepest(-1));
    }

    private static void promise16Bracket() {
        // ( ( ) ( ( ) ) ) for a(bc(d))
        BracketTree tree = made("a(bc(d))");
        int[][] due = {
            {1, 1, 0, 1, 1, 0, 0, 0},
            {1, 2, 1, 2, 3, 2, 1, 0},
            {7, 2, 1, 6, 5, 4, 3, 0},
            {NONE, 0, 0, 0, 3, 3, 0, NONE},
            {0, 1, 1, 2, 3, 3, 2, 0},
        };
        for (int what = 0; what < due.length; what++) {
            for (int position = 0; position < 8; position++) {
                Check.due("bracket(" + position + ", " + what + ")", due[what][position],
                        tree.bracket(position, what));
            }
        }
        Check.due("position -1", UNKNOWN, tree.bracket(-1, 0));
        Check.due("position 2n", UNKNOWN, tree.bracket(8, 0));
        Check.due("greatest position", UNKNOWN, tree.bracket(MOST, 1));
        Check.due("wrong position, wrong property", UNKNOWN, tree.bracket(8, 9));
        Check.due("property -1", BAD_VALUE, tree.bracket(0, -1));
        Check.due("property 5", BAD_VALUE, tree.bracket(7, 5));
    }

    private static void promise17SetWidth() {
        BracketTree tree = made(SAMPLE);
        Check.due("first width", 8, tree.setWidth(4));
        Check.due("least width", 4, tree.setWidth(32));
        Check.due("greatest width", 32, tree.setWidth(5));
        int[] wrong = {3, 33, 0, -1, LEAST, MOST};
        for (int width : wrong) {
            Check.due("setWidth(" + width + ")", BAD_VALUE, tree.setWidth(width));
        }
        Check.due("a wrong width changes nothing", 5, tree.setWidth(6));
        Check.due("blocks of the new width", 6, tree.block(0, 3));
        Check.due("no edit", 0, tree.undo());
        Check.due("undo leaves the width", 6, tree.setWidth(8));
    }

    private static void promise18Block() {
        // Excess: 1 2 3 2 3 2 1 2 | 3 2 1 2 3 2 3 2 | 1 2 1 0 for the sample.
        BracketTree tree = made(SAMPLE);
        int[][] due = {{0, 1, 3, 8}, {2, 1, 3, 8}, {2, 0, 2, 4}};
        for (int block = 0; block < due.length; block++) {
            for (int what = 0; what < 4; what++) {
                Check.due("block(" + block + ", " + what + ")", due[block][what], tree.block(block, what));
            }
        }
        Check.due("block behind the last", UNKNOWN, tree.block(3, 0));
        Check.due("block -1", UNKNOWN, tree.block(-1, 0));
        Check.due("greatest block", UNKNOWN, tree.block(MOST, 0));
        Check.due("block whose start would overflow", UNKNOWN, tree.block(1 << 29, 0));
        Check.due("wrong block, wrong property", UNKNOWN, tree.block(3, 4));
        Check.due("property -1", BAD_VALUE, tree.block(0, -1));
        Check.due("property 4", BAD_VALUE, tree.block(2, 4));
        tree.setWidth(4);
        Check.due("a last block that is full", 4, tree.block(4, 3));
        Check.due("no block behind it", UNKNOWN, tree.block(5, 3));
        Check.due("excess before a block of 4", 2, tree.block(2, 0));
        Check.due("greatest excess in a block of 4", 3, tree.block(2, 2));
        BracketTree deep = made(chain(100));
        deep.setWidth(32);
        Check.due("greatest excess of a chain", 100, deep.block(3, 2));
        Check.due("least excess there", 72, deep.block(3, 1));
        Check.due("excess before", 96, deep.block(3, 0));
        Check.due("last block of a chain", 8, deep.block(6, 3));
        deep.setWidth(8);
        Check.due("greatest excess not of the position behind", 8, deep.block(0, 2));
        Check.due("least excess not of the position before", 9, deep.block(1, 1));
        BracketTree odd = made("a(bc)");
        odd.setWidth(5);
        int[] lastOne = {1, 0, 0, 1};
        for (int what = 0; what < 4; what++) {
            Check.due("a block of one position " + what, lastOne[what], odd.block(1, what));
        }
        Check.due("blocks with one of one position", 2, odd.space(4));
        Check.due("least excess of one node", 0, new BracketTree().block(0, 1));
        Check.due("greatest excess of one node", 1, new BracketTree().block(0, 2));
    }

    private static void promise19Space() {
        int[] nodes = {1, 2, 3, 4, 7, 8, 15, 16, 31, 32, 63, 64, 99, 100};
        int[] digits = {1, 2, 2, 3, 3, 4, 4, 5, 5, 6, 6, 7, 7, 7};
        for (int i = 0; i < nodes.length; i++) {
            BracketTree tree = nodes[i] == 1 ? new BracketTree() : made(star(nodes[i]));
            int blocks = (nodes[i] + 3) / 4;
            Check.due("bits of brackets of " + nodes[i], 2 * nodes[i], tree.space(0));
            Check.due("bits of labels of " + nodes[i], 5 * nodes[i], tree.space(1));
            Check.due("bits of the table of " + nodes[i], 3 * digits[i] * blocks, tree.space(2));
            Check.due("sum of " + nodes[i], 7 * nodes[i] + 3 * digits[i] * blocks, tree.space(3));
            Check.due("blocks of " + nodes[i], blocks, tree.space(4));
        }
        BracketTree tree = made(star(100));
        tree.setWidth(32);
        Check.due("blocks of 32", 7, tree.space(4));
        Check.due("table of 32", 147, tree.space(2));
        tree.setWidth(7);
        Check.due("blocks of 7", 29, tree.space(4));
        Check.due("space -1", BAD_VALUE, tree.space(-1));
        Check.due("space 5", BAD_VALUE, tree.space(5));
        Check.due("greatest space", BAD_VALUE, tree.space(MOST));
    }

    private static void promise20SetLabel() {
        BracketTree tree = made("a(bc)");
        Check.due("previous label", 'b', tree.setLabel(1, 'z'));
        is("new label", "a(zc)", tree);
        Check.due("the same label", 'z', tree.setLabel(1, 'z'));
        Check.due("of the root", 'a', tree.setLabel(0, 'a'));
        Check.due("each is an edit", 3, tree.undo());
        Check.due("each is an edit", 2, tree.undo());
        Check.due("each is an edit", 1, tree.undo());
        is("old label", "a(bc)", tree);
        char[] wrong = {'A', '`', '{', '(', (char) 0, (char) 65535, (char) ('a' + 256)};
        for (char label : wrong) {
            Check.due("wrong label " + (int) label, BAD_VALUE, tree.setLabel(0, label));
            Check.due("wrong label " + (int) label + " of no node", UNKNOWN, tree.setLabel(3, label));
        }
        Check.due("no node", UNKNOWN, tree.setLabel(-1, 'a'));
        is("errors", "a(bc)", tree);
        Check.due("errors are no edits", 0, tree.undo());
    }

    private static void promise21Labelled() {
        BracketTree tree = made(SAMPLE);
        Check.due("c in all", 4, tree.labelled(0, 'c'));
        Check.due("c in b", 2, tree.labelled(1, 'c'));
        Check.due("c in d", 0, tree.labelled(4, 'c'));
        Check.due("the node itself", 1, tree.labelled(4, 'd'));
        Check.due("a leaf itself", 1, tree.labelled(9, 'f'));
        Check.due("not the node behind", 0, tree.labelled(1, 'd'));
        Check.due("z", 0, tree.labelled(0, 'z'));
        Check.due("wrong label", BAD_VALUE, tree.labelled(0, 'C'));
        Check.due("label behind z", BAD_VALUE, tree.labelled(0, '{'));
        Check.due("label before a", BAD_VALUE, tree.labelled(0, '`'));
        Check.due("no node", UNKNOWN, tree.labelled(10, 'c'));
        Check.due("no node, wrong label", UNKNOWN, tree.labelled(-1, 'C'));
    }

    private static void promise22Select() {
        BracketTree tree = made(SAMPLE);
        int[] due = {2, 3, 7, 8};
        for (int k = 0; k < due.length; k++) {
            Check.due("select(0, c, " + k + ")", due[k], tree.select(0, 'c', k));
        }
        Check.due("behind the last", NONE, tree.select(0, 'c', 4));
        Check.due("far behind", NONE, tree.select(0, 'c', MOST));
        Check.due("in a subtree", 8, tree.select(6, 'c', 1));
        Check.due("not behind the subtree", NONE, tree.select(1, 'c', 2));
        Check.due("not the node behind the subtree", NONE, tree.select(1, 'd', 0));
        Check.due("itself", 6, tree.select(6, 'b', 0));
        Check.due("none", NONE, tree.select(0, 'z', 0));
        Check.due("k of -1", BAD_VALUE, tree.select(0, 'c', -1));
        Check.due("k of -1 for no label", BAD_VALUE, tree.select(0, 'z', LEAST));
        Check.due("wrong label", BAD_VALUE, tree.select(0, 'C', 0));
        Check.due("label behind z", BAD_VALUE, tree.select(0, '{', 0));
        Check.due("no node", UNKNOWN, tree.select(10, 'c', 0));
        Check.due("no node, all wrong", UNKNOWN, tree.select(-1, 'C', -1));
    }

    private static void promise23AncestorWith() {
        BracketTree tree = made("a(b(a(cb(d)))c)");
        Check.due("nearest a", 2, tree.ancestorWith(5, 'a'));
        Check.due("nearest b", 4, tree.ancestorWith(5, 'b'));
        Check.due("not itself", 1, tree.ancestorWith(4, 'b'));
        Check.due("a of the inner a", 0, tree.ancestorWith(2, 'a'));
        Check.due("not a sibling", NONE, tree.ancestorWith(4, 'c'));
        Check.due("not a node below", NONE, tree.ancestorWith(2, 'd'));
        Check.due("past a subtree", 0, tree.ancestorWith(6, 'a'));
        Check.due("not in a subtree before", NONE, tree.ancestorWith(6, 'b'));
        Check.due("of the root", NONE, tree.ancestorWith(0, 'a'));
        Check.due("wrong label", BAD_VALUE, tree.ancestorWith(0, 'A'));
        Check.due("label behind z", BAD_VALUE, tree.ancestorWith(5, '{'));
        Check.due("no node", UNKNOWN, tree.ancestorWith(7, 'a'));
        Check.due("no node, wrong label", UNKNOWN, tree.ancestorWith(-1, 'A'));
    }

    private static void promise24AreEqual() {
        BracketTree tree = made(SAMPLE);
        Check.due("equal", 1, tree.areEqual(1, 6));
        Check.due("equal leaves", 1, tree.areEqual(2, 8));
        Check.due("itself", 1, tree.areEqual(0, 0));
        Check.due("other label", 0, tree.areEqual(2, 5));
        Check.due("other size", 0, tree.areEqual(0, 1));
        Check.due("other order", 0, made("a(b(cd)b(dc))").areEqual(1, 4));
        Check.due("other form", 0, made("a(b(c(d))b(cd))").areEqual(1, 4));
        Check.due("other last label", 0, made("a(b(cd)b(ce))").areEqual(1, 4));
        Check.due("longer second", 0, made("a(b(cd)b(cde))").areEqual(1, 4));
        Check.due("shorter second", 0, made("a(b(cde)b(cd))").areEqual(1, 5));
        Check.due("other depths", 1, made("a(b(c)d(b(c)))").areEqual(1, 4));
        Check.due("first unknown", UNKNOWN, tree.areEqual(10, 0));
        Check.due("second unknown", UNKNOWN, tree.areEqual(0, 10));
        Check.due("same unknown", UNKNOWN, tree.areEqual(-1, -1));
    }

    private static void promise25Copies() {
        BracketTree tree = made(SAMPLE);
        Check.due("two b", 2, tree.copies(1));
        Check.due("two b from the second", 2, tree.copies(6));
        Check.due("four c", 4, tree.copies(7));
        Check.due("one root", 1, tree.copies(0));
        Check.due("one e", 1, tree.copies(5));
        Check.due("inner copies", 3, made("a(aa(a)a)").copies(3));
        Check.due("no node", UNKNOWN, tree.copies(10));
        Check.due("node -1", UNKNOWN, tree.copies(-1));
        Check.due("99 leaves", 99, made(star(100)).copies(50));
    }

    private static void promise26Insert() {
        BracketTree tree = new BracketTree();
        Check.due("first child", 1, tree.insert(0, 0, 'c'));
        Check.due("before it", 1, tree.insert(0, 0, 'b'));
        Check.due("behind them", 3, tree.insert(0, 2, 'e'));
        Check.due("between them", 3, tree.insert(0, 2, 'd'));
        is("children", "a(bcde)", tree);
        Check.due("below the second", 3, tree.insert(2, 0, 'x'));
        Check.due("behind a subtree", 4, tree.insert(0, 2, 'y'));
        is("children below", "a(bc(x)yde)", tree);
        Check.due("place behind the end", BAD_VALUE, tree.insert(0, 6, 'z'));
        Check.due("place -1", BAD_VALUE, tree.insert(0, -1, 'z'));
        Check.due("greatest place", BAD_VALUE, tree.insert(0, MOST, 'z'));
        Check.due("wrong label", BAD_VALUE, tree.insert(0, 0, 'Z'));
        Check.due("label behind z", BAD_VALUE, tree.insert(0, 0, '{'));
        Check.due("no parent", UNKNOWN, tree.insert(7, 0, 'z'));
        Check.due("no parent, all wrong", UNKNOWN, tree.insert(-1, -1, 'Z'));
        BracketTree full = made(star(99));
        Check.due("the 100th node", 99, full.insert(0, 98, 'z'));
        Check.due("the 101st node", FULL, full.insert(0, 0, 'z'));
        Check.due("the 101st node at no place", BAD_VALUE, full.insert(0, 100, 'z'));
        Check.due("the 101st node with a wrong label", BAD_VALUE, full.insert(0, 0, '1'));
        Check.due("the 101st node below no node", UNKNOWN, full.insert(100, 0, 'z'));
        Check.due("one edit less", 1, full.undo());
    }

    private static void promise27Wrap() {
        BracketTree tree = made(SAMPLE);
        Check.due("wrap two", 4, tree.wrap(0, 1, 2, 'x'));
        is("wrapped two", "a(b(cc)x(d(e)b(cc))f)", tree);
        Check.due("wrap all", 1, tree.wrap(0, 0, 3, 'y'));
        is("wrapped all", "a(y(b(cc)x(d(e)b(cc))f))", tree);
        Check.due("wrap none", 5, tree.wrap(2, 2, 0, 'z'));
        is("wrapped none", "a(y(b(ccz)x(d(e)b(cc))f))", tree);
        Check.due("wrap none below a leaf", 4, tree.wrap(3, 0, 0, 'w'));
        is("wrapped none below a leaf", "a(y(b(c(w)cz)x(d(e)b(cc))f))", tree);
        tree = made(SAMPLE);
        Check.due("first behind the end", BAD_VALUE, tree.wrap(0, 5, 0, 'x'));
        Check.due("first at the end, none", 10, tree.wrap(0, 4, 0, 'x'));
        tree.undo();
        Check.due("first -1", BAD_VALUE, tree.wrap(0, -1, 1, 'x'));
        Check.due("many -1", BAD_VALUE, tree.wrap(0, 1, -1, 'x'));
        Check.due("one too many", BAD_VALUE, tree.wrap(0, 1, 4, 'x'));
        Check.due("overflowing many", BAD_VALUE, tree.wrap(0, 1, MOST, 'x'));
        Check.due("least many", BAD_VALUE, tree.wrap(0, 1, LEAST, 'x'));
        Check.due("wrong label", BAD_VALUE, tree.wrap(0, 1, 1, 'X'));
        Check.due("no parent", UNKNOWN, tree.wrap(10, 0, 0, 'x'));
        Check.due("no parent, all wrong", UNKNOWN, tree.wrap(-1, -1, -1, 'X'));
        is("errors", SAMPLE, tree);
        BracketTree full = made(star(100));
        Check.due("wrap in a full tree", FULL, full.wrap(0, 0, 99, 'x'));
        Check.due("wrap too many in a full tree", BAD_VALUE, full.wrap(0, 0, 100, 'x'));
        full.cut(5);
        Check.due("wrap the 98 that are left", 1, full.wrap(0, 0, 98, 'x'));
        is("wrapped 98", "a(x(" + repeat("b", 98) + "))", full);
    }

    private static void promise28Remove() {
        BracketTree tree = made("a(b(c(x)d)e(f)g)");
        Check.due("remove with children", 7, tree.remove(1));
        is("removed b", "a(c(x)de(f)g)", tree);
        Check.due("remove a leaf", 6, tree.remove(3));
        is("removed d", "a(c(x)e(f)g)", tree);
        Check.due("remove the last", 5, tree.remove(5));
        is("removed g", "a(c(x)e(f))", tree);
        Check.due("remove the root", NOT_POSSIBLE, tree.remove(0));
        Check.due("remove no node", UNKNOWN, tree.remove(5));
        Check.due("remove -1", UNKNOWN, tree.remove(-1));
        Check.due("remove the only node", NOT_POSSIBLE, new BracketTree().remove(0));
    }

    private static void promise29Cut() {
        BracketTree tree = made("a(b(c(x)d)e(f)g)");
        Check.due("cut a subtree in the middle", 6, tree.cut(5));
        is("cut e", "a(b(c(x)d)g)", tree);
        Check.due("cut a leaf", 5, tree.cut(4));
        is("cut d", "a(b(c(x))g)", tree);
        Check.due("cut the first subtree", 2, tree.cut(1));
        is("cut b", "a(g)", tree);
        Check.due("cut the root", NOT_POSSIBLE, tree.cut(0));
        Check.due("cut no node", UNKNOWN, tree.cut(2));
        Check.due("cut -1", UNKNOWN, tree.cut(-1));
        Check.due("cut the last child", 1, tree.cut(1));
        is("cut all", "a", tree);
        Check.due("cut the only node", NOT_POSSIBLE, tree.cut(0));
    }

    private static int moved(String from, int node, int parent, int k, String to) {
        BracketTree tree = made(from);
        int answer = tree.move(node, parent, k);
        is("move(" + node + ", " + parent + ", " + k + ") in " + from, to, tree);
        Check.due("one edit", answer < 0 ? 0 : 1, tree.undo());
        return answer;
    }

    private static void promise30Move() {
        Check.due("to the end", 3, moved("a(b(x)cd)", 1, 0, 2, "a(cdb(x))"));
        Check.due("one on", 2, moved("a(b(x)cd)", 1, 0, 1, "a(cb(x)d)"));
        Check.due("to the same place", 1, moved("a(b(x)cd)", 1, 0, 0, "a(b(x)cd)"));
        Check.due("to the same place at the end", 4, moved("a(b(x)cd)", 4, 0, 2, "a(b(x)cd)"));
        Check.due("to the front", 1, moved("a(b(x)cd)", 4, 0, 0, "a(db(x)c)"));
        Check.due("down before", 2, moved("a(b(x)cd)", 4, 1, 0, "a(b(dx)c)"));
        Check.due("down before, behind", 3, moved("a(b(x)cd)", 4, 1, 1, "a(b(xd)c)"));
        Check.due("down behind", 2, moved("a(b(x)cd)", 1, 3, 0, "a(c(b(x))d)"));
        Check.due("down below the last", 3, moved("a(b(x)cd)", 1, 4, 0, "a(cd(b(x)))"));
        Check.due("up", 1, moved("a(b(x(y))c)", 2, 0, 0, "a(x(y)bc)"));
        Check.due("up, behind its old parent", 2, moved("a(b(x(y))c)", 2, 0, 1, "a(bx(y)c)"));
        Check.due("up, to the end", 3, moved("a(b(x(y))c)", 2, 0, 2, "a(bcx(y))"));
        Check.due("place too great among its own siblings", BAD_VALUE,
                moved("a(b(x)cd)", 1, 0, 3, "a(b(x)cd)"));
        Check.due("place too great at another parent", BAD_VALUE,
                moved("a(b(x)cd)", 4, 1, 2, "a(b(x)cd)"));
        Check.due("place -1", BAD_VALUE, moved("a(b(x)cd)", 4, 1, -1, "a(b(x)cd)"));
        Check.due("greatest place", BAD_VALUE, moved("a(b(x)cd)", 4, 1, MOST, "a(b(x)cd)"));
        Check.due("below itself", NOT_POSSIBLE, moved("a(b(x)cd)", 1, 1, 0, "a(b(x)cd)"));
        Check.due("below its child", NOT_POSSIBLE, moved("a(b(x)cd)", 1, 2, 0, "a(b(x)cd)"));
        Check.due("below its child at no place", NOT_POSSIBLE, moved("a(b(x)cd)", 1, 2, -1, "a(b(x)cd)"));
        Check.due("the root", NOT_POSSIBLE, moved("a(b(x)cd)", 0, 1, 0, "a(b(x)cd)"));
        Check.due("the root below itself", NOT_POSSIBLE, moved("a(b(x)cd)", 0, 0, 0, "a(b(x)cd)"));
        Check.due("no node", UNKNOWN, moved("a(b(x)cd)", 5, 0, 0, "a(b(x)cd)"));
        Check.due("no parent", UNKNOWN, moved("a(b(x)cd)", 1, 5, 0, "a(b(x)cd)"));
        Check.due("root to no parent", UNKNOWN, moved("a(b(x)cd)", 0, -1, -1, "a(b(x)cd)"));
        Check.due("in a full tree", 99, moved(star(100), 1, 0, 98, star(100)));
    }

    private static void promise31Undo() {
        BracketTree tree = made("a(bc)");
        tree.setLabel(0, 'z');
        tree.insert(0, 0, 'i');
        tree.wrap(0, 0, 2, 'w');
        tree.remove(2);
        tree.cut(2);
        tree.move(1, 0, 1);
        is("six edits", "z(cw)", tree);
        String[] due = {"z(wc)", "z(w(b)c)", "z(w(ib)c)", "z(ibc)", "z(bc)", "a(bc)", "a"};
        for (int i = 0; i < due.length; i++) {
            Check.due("undo " + i, due.length - 1 - i, tree.undo());
            is("undone " + i, due[i], tree);
        }
        Check.due("nothing to undo", NONE, tree.undo());
        is("nothing undone", "a", tree);
        fifteenTrees();
        undoInTheMiddle();
    }

    private static void fifteenTrees() {
        BracketTree tree = new BracketTree();
        for (int i = 0; i < 20; i++) {
            tree.setLabel(0, (char) ('b' + i));
        }
        for (int i = 14; i >= 0; i--) {
            Check.due("undo of the last fifteen", i, tree.undo());
            Check.due("label then", 'b' + 4 + i, tree.node(0, 10));
        }
        Check.due("the sixteenth is dropped", NONE, tree.undo());
        Check.due("label at the end", 'f', tree.node(0, 10));
        tree.setLabel(0, 'z');
        Check.due("undo after the end", 0, tree.undo());
        Check.due("label after the end", 'f', tree.node(0, 10));
    }

    private static void undoInTheMiddle() {
        BracketTree tree = new BracketTree();
        tree.insert(0, 0, 'b');
        tree.insert(0, 1, 'c');
        Check.due("undo one", 1, tree.undo());
        tree.insert(0, 0, 'd');
        is("edit after undo", "a(db)", tree);
        Check.due("undo the new one", 1, tree.undo());
        is("undone the new one", "a(b)", tree);
        Check.due("undo the first", 0, tree.undo());
        Check.due("undo is no edit", NONE, tree.undo());
    }

    private static void errorsChangeNothing() {
        BracketTree tree = made(SAMPLE);
        tree.setLabel(9, 'g');
        tree.read();
        tree.type('?');
        tree.read();
        tree.setLabel(0, 'A');
        tree.insert(0, 9, 'a');
        tree.wrap(0, 0, 9, 'a');
        tree.remove(0);
        tree.cut(0);
        tree.move(0, 1, 0);
        tree.move(1, 0, 9);
        tree.setWidth(99);
        is("errors", SAMPLE, tree);
        Check.due("errors are not recorded", 2, tree.undo());
        is("the edit before the errors", SAMPLE.replace('f', 'g'), tree);
    }

    // README.md shows these calls with these answers; change both together.
    private static void readmesExample() {
        BracketTree tree = made("a(b(cc)d)");
        Check.due("README: size()", 5, tree.size());
        Check.due("README: node(1, 3)", 3, tree.node(1, 3));
        Check.due("README: node(0, 1)", NONE, tree.node(0, 1));
        Check.due("README: way(2, 4, -1)", 3, tree.way(2, 4, -1));
        Check.due("README: way(2, 4, 1)", 1, tree.way(2, 4, 1));
        Check.due("README: select(0, 'c', 1)", 3, tree.select(0, 'c', 1));
        Check.due("README: copies(2)", 2, tree.copies(2));
        Check.due("README: insert(0, 2, 'e')", 5, tree.insert(0, 2, 'e'));
        is("README: the tree after insert", "a(b(cc)de)", tree);
        Check.due("README: bracket(1, 2)", 6, tree.bracket(1, 2));
        Check.due("README: block(0, 2)", 3, tree.block(0, 2));
        Check.due("README: move(1, 4, 0)", 2, tree.move(1, 4, 0));
        is("README: the tree after move", "a(d(b(cc))e)", tree);
        Check.due("README: move(1, 2, 0)", NOT_POSSIBLE, tree.move(1, 2, 0));
        Check.due("README: undo()", 2, tree.undo());
        Check.due("README: undo() again", 1, tree.undo());
        is("README: the tree at last", "a(b(cc)d)", tree);
    }
}
