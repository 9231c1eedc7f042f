/**
 * The sentences of the document that name a boundary, in the order in which they stand there: a test
 * for each, named after its sentence. What is refused stands in RefusalTests.
 */
public final class BoundaryTests extends TreeTest {
    // What may stand next in a text, behind each kind of beginning; a dot stands for the end.
    private static final String[][] NEXT_SIGNS = {
        {"", "a"},
        {"a", "(."},
        {"a(", "a"},
        {"a(b", "a()"},
        {"a(b(", "a"},
        {"a(b(c)", "a)"},
        {"a(b(c))", "."},
        {"a(b)", "."},
    };

    public static void main(String[] args) {
        oneToHundredNodes();
        labelsFromAToZ();
        depthsHeightsAndRanks();
        equalSubtrees();
        positions();
        blocksOfEachWidth();
        leastAndGreatestExcess();
        binaryDigits();
        textOf300Characters();
        nextSigns();
        letterOf101stNode();
        textsThatEndTooEarly();
        newObject();
        promise2to4Texts();
        promise5Written();
        promise7NodeOfRoot();
        promise8LastChild();
        promise9Neighbours();
        promise10To12Ways();
        promise13And14Places();
        promise15Deepest();
        promise16RootsBrackets();
        promise17Width();
        promise20SetLabel();
        promise21To23Labels();
        promise25Copies();
        promise26Insert();
        promise27Wrap();
        promise28And29RemoveAndCut();
        promise30Move();
        promise31Undo();
        Check.close("BoundaryTests");
    }

    // ---- Description: tree

    private static void oneToHundredNodes() {
        BracketTree tree = new BracketTree();
        for (int n = 1; n < 100; n++) {
            Check.due("insert as number " + n, n, tree.insert(n - 1, 0, 'b'));
            Check.due("nodes then", n + 1, tree.size());
        }
        Check.due("the 101st node by insert", FULL, tree.insert(99, 0, 'b'));
        Check.due("the 101st node by wrap", FULL, tree.wrap(0, 0, 1, 'b'));
        Check.due("still 100 nodes", 100, tree.size());
        Check.due("99 nodes after remove", 99, tree.remove(50));
        Check.due("room for one by wrap", 1, tree.wrap(0, 0, 1, 'c'));
        Check.due("no room for two", FULL, tree.insert(0, 0, 'b'));
        Check.due("one node is left by cut", 1, tree.cut(1));
        Check.due("the last node stays at cut", NOT_POSSIBLE, tree.cut(0));
        Check.due("the last node stays at remove", NOT_POSSIBLE, tree.remove(0));
        Check.due("still one node", 1, tree.size());
    }

    private static void labelsFromAToZ() {
        for (char label = 'a'; label <= 'z'; label++) {
            BracketTree tree = made("q(" + label + ")");
            Check.due("read label", label, tree.node(1, 10));
            Check.due("set label", 'q', tree.setLabel(0, label));
            Check.due("insert label", 2, tree.insert(1, 0, label));
            Check.due("wrap with label", 2, tree.wrap(1, 0, 1, label));
            Check.due("four of this label", 4, tree.labelled(0, label));
            Check.due("the last of this label", 3, tree.select(0, label, 3));
            Check.due("parent of this label", 2, tree.ancestorWith(3, label));
            is("labels", "x(x(x(x)))".replace('x', label), tree);
        }
    }

    private static void depthsHeightsAndRanks() {
        BracketTree tree = made(chain(100));
        BracketTree flat = made(star(100));
        BracketTree single = new BracketTree();
        int[] ofSingle = {0, NONE, 0, 1, 0, 0, 1, 0, 1, 0, 'a'};
        int[] ofChain = {0, NONE, 1, 100, 99, 0, 1, 0, 199, 99, 'a'};
        int[] ofChainsEnd = {99, 98, 0, 1, 0, 0, 1, 99, 100, 0, 'a'};
        int[] ofStar = {0, NONE, 99, 100, 1, 0, 99, 0, 199, 99, 'a'};
        int[] ofStarsEnd = {1, 0, 0, 1, 0, 98, 1, 197, 198, 98, 'b'};
        for (int what = 0; what <= 10; what++) {
            Check.due("single node " + what, ofSingle[what], single.node(0, what));
            Check.due("chain's root " + what, ofChain[what], tree.node(0, what));
            Check.due("chain's end " + what, ofChainsEnd[what], tree.node(99, what));
            Check.due("star's root " + what, ofStar[what], flat.node(0, what));
            Check.due("star's end " + what, ofStarsEnd[what], flat.node(99, what));
        }
    }

    private static void equalSubtrees() {
        Check.due("not with equally many children", 0, made("a(bb(c))").areEqual(1, 2));
        Check.due("not with equally many children, turned", 0, made("a(b(c)b)").areEqual(1, 3));
        Check.due("not the same label", 0, made("a(b(c)d(c))").areEqual(1, 3));
        Check.due("labels in the same preorder, another form", 0, made("a(b(cd)b(c(d)))").areEqual(1, 4));
        Check.due("equal but for the last label", 0, made("a(b(cd)b(cc))").areEqual(1, 4));
        Check.due("equal at other depths", 1, made("a(c(d)b(c(d)))").areEqual(1, 4));
        Check.due("a subtree and its own part", 0, made("a(a(a))").areEqual(0, 1));
        Check.due("equal to itself, one node", 1, new BracketTree().areEqual(0, 0));
        Check.due("equal to itself, 100 nodes", 1, made(chain(100)).areEqual(0, 0));
        Check.due("equal up to the tree's end", 0, made("a(b(cc)b(c))").areEqual(1, 4));
    }

    // ---- Description: brackets, blocks, space

    private static void positions() {
        int[] counts = {1, 2, 99, 100};
        for (int n : counts) {
            BracketTree tree = n == 1 ? new BracketTree() : made(star(n));
            int last = 2 * n - 1;
            Check.due("the first bracket opens", 1, tree.bracket(0, 0));
            Check.due("excess at the first position", 1, tree.bracket(0, 1));
            Check.due("the last bracket closes", 0, tree.bracket(last, 0));
            Check.due("excess at the last position", 0, tree.bracket(last, 1));
            Check.due("first and last match", last, tree.bracket(0, 2));
            Check.due("last and first match", 0, tree.bracket(last, 2));
            Check.due("the last bracket is the root's", 0, tree.bracket(last, 4));
            Check.due("no position 2n", UNKNOWN, tree.bracket(2 * n, 1));
        }
        Check.due("the greatest excess", 100, made(chain(100)).bracket(99, 1));
        Check.due("the excess behind it", 99, made(chain(100)).bracket(100, 1));
        Check.due("the innermost two match", 100, made(chain(100)).bracket(99, 2));
    }

    // For each number of nodes and each width: how many blocks, the last one's positions, the space.
    private static void blocksOfEachWidth() {
        for (int n = 1; n <= 100; n++) {
            BracketTree tree = n == 1 ? new BracketTree() : made(star(n));
            for (int width = 4; width <= 32; width++) {
                tree.setWidth(width);
                int whole = 2 * n / width;
                int rest = 2 * n % width;
                int blocks = rest == 0 ? whole : whole + 1;
                String where = " of " + n + " nodes in width " + width;
                Check.due("blocks" + where, blocks, tree.space(4));
                Check.due("last block" + where, rest == 0 ? width : rest, tree.block(blocks - 1, 3));
                Check.due("no block behind" + where, UNKNOWN, tree.block(blocks, 3));
                Check.due("excess before the first" + where, 0, tree.block(0, 0));
                if (blocks > 1) {
                    Check.due("a full first block" + where, width, tree.block(0, 3));
                    Check.due("excess before the last" + where,
                            tree.bracket((blocks - 1) * width - 1, 1), tree.block(blocks - 1, 0));
                }
            }
        }
    }

    private static void leastAndGreatestExcess() {
        // Excess: 1 2 3 4 3 2 1 0
        BracketTree tree = made("a(b(c(d)))");
        tree.setWidth(4);
        Check.due("least at the first position", 1, tree.block(0, 1));
        Check.due("greatest at the last position", 4, tree.block(0, 2));
        Check.due("least at the last position", 0, tree.block(1, 1));
        Check.due("greatest at the first position", 3, tree.block(1, 2));
        Check.due("the excess before does not count", 4, tree.block(1, 0));
        tree.setWidth(5);
        Check.due("greatest inside a block", 4, tree.block(0, 2));
        Check.due("least in a shorter block", 0, tree.block(1, 1));
        Check.due("greatest in a shorter block", 2, tree.block(1, 2));
        tree.setWidth(32);
        Check.due("the only block's least", 0, tree.block(0, 1));
        Check.due("the only block's greatest", 4, tree.block(0, 2));
        Check.due("the only block's positions", 8, tree.block(0, 3));
    }

    private static void binaryDigits() {
        for (int n = 1; n <= 100; n++) {
            BracketTree tree = n == 1 ? new BracketTree() : made(star(n));
            tree.setWidth(32);
            int digits = Integer.toBinaryString(n).length();
            int blocks = (2 * n + 31) / 32;
            Check.due("bits of brackets of " + n, 2 * n, tree.space(0));
            Check.due("bits of labels of " + n, 5 * n, tree.space(1));
            Check.due("bits of the table of " + n, 3 * digits * blocks, tree.space(2));
            Check.due("sum of " + n, 7 * n + 3 * digits * blocks, tree.space(3));
        }
        Check.due("of 100, say, 7", 3 * 7 * 25, made(star(100)).space(2));
    }

    // ---- Description: text

    private static void textOf300Characters() {
        BracketTree tree = new BracketTree();
        Check.due("299 characters", 299, typeAll(tree, repeat("a", 299)));
        Check.due("the 300th", 300, tree.type('b'));
        Check.due("the 301st", FULL, tree.type('c'));
        Check.due("a full text is read", -101, tree.read());
        Check.due("a full text is emptied", 300, tree.clearText());
        Check.due("the first one again", 1, tree.type('d'));
        Check.due("read it", 1, tree.read());
        is("the only letter", "d", tree);
        // The longest text of a tree has 298 characters; two more are too many.
        tree = new BracketTree();
        typeAll(tree, chain(100));
        Check.due("the longest text of a tree", 100, tree.read());
        tree.type(')');
        Check.due("one more", -100 - 298, tree.read());
        tree.type(')');
        Check.due("two more", -100 - 298, tree.read());
        Check.due("no room for three", FULL, tree.type(')'));
        Check.due("the full text's fault", -100 - 298, tree.read());
    }

    private static void nextSigns() {
        for (String[] state : NEXT_SIGNS) {
            for (int sign = 0; sign < 1024; sign++) {
                nextSign(state[0], state[1], (char) sign);
            }
            // Signs that are allowed ones but for their upper bits.
            for (int high = 1024; high < 65536; high += 256) {
                nextSign(state[0], state[1], (char) (high + 'a'));
                nextSign(state[0], state[1], (char) (high + '('));
                nextSign(state[0], state[1], (char) (high + ')'));
            }
            nextSign(state[0], state[1], (char) 65535);
            boolean whole = state[1].indexOf('.') >= 0;
            int answer = readingOf(state[0]);
            Check.due("the end behind " + state[0], whole ? 1 : 0, answer > 0 ? 1 : 0);
            Check.due("the fault is the length of " + state[0], whole ? answer : -100 - state[0].length(), answer);
        }
    }

    private static void nextSign(String begun, String allowed, char sign) {
        boolean letter = sign >= 'a' && sign <= 'z';
        boolean fits = sign != '.' && allowed.indexOf(letter ? 'a' : sign) >= 0;
        int answer = readingOf(begun + sign);
        String what = "sign " + (int) sign + " behind " + begun;
        if (fits) {
            // Where the sign is allowed, the text is whole or ends too early behind it.
            Check.due(what, 1, answer > 0 || answer == -101 - begun.length() ? 1 : 0);
        } else {
            Check.due(what, -100 - begun.length(), answer);
        }
    }

    private static void letterOf101stNode() {
        Check.due("as a sibling", -100 - 101, readingOf("a(" + repeat("b", 99) + "c)"));
        Check.due("behind the 100th node's (", -100 - 102, readingOf("a(" + repeat("b", 99) + "(c))"));
        Check.due("behind another's )", -100 - 103, readingOf("a(" + repeat("b", 97) + "b(b)c)"));
        Check.due("in a chain", -100 - 200, readingOf(repeat("a(", 100) + "b" + repeat(")", 99)));
        Check.due("the 100th letter is allowed", 100, readingOf("a(" + repeat("b", 98) + "z)"));
        Check.due("another fault before it", -100 - 2, readingOf("a(?" + repeat("b", 100) + ")"));
        Check.due("a capital at its place", -100 - 101, readingOf("a(" + repeat("b", 99) + "C)"));
        Check.due("behind a whole tree of 100", -100 - 102, readingOf(star(100) + "c"));
    }

    private static void textsThatEndTooEarly() {
        String whole = "a(b(cd)e(f(g)))";
        for (int length = 0; length < whole.length(); length++) {
            int due = length == 1 ? 1 : -100 - length;
            Check.due("the first " + length + " of " + whole, due, readingOf(whole.substring(0, length)));
        }
        Check.due("the whole text", 7, readingOf(whole));
        Check.due("299 characters with a 101st letter", -100 - 200, readingOf(repeat("a(", 149) + "a"));
        Check.due("a star of 100 without its end", -100 - 101, readingOf("a(" + repeat("b", 99)));
        Check.due("a chain of 100 without its end", -100 - 297,
                readingOf(chain(100).substring(0, 297)));
    }

    // ---- promises

    private static void newObject() {
        BracketTree tree = new BracketTree();
        is("a single node with the label a", "a", tree);
        Check.due("one node", 1, tree.size());
        Check.due("the blocks' width is 8 at first", 8, tree.setWidth(8));
        Check.due("the text is empty", -100, tree.read());
        Check.due("of length 0", 0, tree.clearText());
        Check.due("the history is empty", NONE, tree.undo());
        Check.due("and stays empty", NONE, tree.undo());
    }

    private static void promise2to4Texts() {
        BracketTree tree = new BracketTree();
        Check.due("clearText of an empty text", 0, tree.clearText());
        Check.due("length 1", 1, tree.type('b'));
        Check.due("read a text of one letter", 1, tree.read());
        Check.due("the text stays", 1, tree.read());
        Check.due("type behind what was read", 2, tree.type('('));
        Check.due("a fault changes nothing", -102, tree.read());
        is("the tree before the fault", "b", tree);
        Check.due("the faulty text stays", 3, tree.type('c'));
        tree.type(')');
        Check.due("read the longer text", 2, tree.read());
        is("the longer text", "b(c)", tree);
        Check.due("clearText", 4, tree.clearText());
        Check.due("clearText again", 0, tree.clearText());
        is("clearText leaves the tree", "b(c)", tree);
        tree.type('y');
        Check.due("a smaller tree", 1, tree.read());
        Check.due("has no old nodes", UNKNOWN, tree.node(1, 0));
        Check.due("nor an old child", NONE, tree.child(0, 0));
        Check.due("nor an old label", 0, tree.labelled(0, 'c'));
    }

    private static void promise5Written() {
        String[] texts = {"a", "a(b)", "a(b(c))", "a(bc)", star(100), chain(50)};
        for (String text : texts) {
            BracketTree tree = made(text);
            int length = text.length();
            Check.due("length of " + text, length, tree.written(-1));
            Check.due("first character of " + text, text.charAt(0), tree.written(0));
            Check.due("last character of " + text, text.charAt(length - 1), tree.written(length - 1));
            Check.due("behind the last of " + text, NONE, tree.written(length));
            Check.due("-2 in " + text, BAD_VALUE, tree.written(-2));
            is("written text", text, tree);
        }
        BracketTree deep = grownChain(100);
        Check.due("the longest text's length", 298, deep.written(-1));
        Check.due("its last character", ')', deep.written(297));
        Check.due("behind it", NONE, deep.written(298));
        BracketTree tree = made("a(b)");
        tree.cut(1);
        is("no parentheses behind a node that has lost its children", "a", tree);
        tree.insert(0, 0, 'c');
        is("parentheses behind a node's first child", "a(c)", tree);
    }

    private static void promise7NodeOfRoot() {
        BracketTree tree = made(SAMPLE);
        Check.due("parent: NONE for the root", NONE, tree.node(0, 1));
        Check.due("place: 0 for the root", 0, tree.node(0, 5));
        Check.due("the first property", 0, tree.node(0, 0));
        Check.due("the last property", 'a', tree.node(0, 10));
        Check.due("no property before the first", BAD_VALUE, tree.node(0, -1));
        Check.due("no property behind the last", BAD_VALUE, tree.node(0, 11));
        Check.due("the last node", 1, tree.node(9, 0));
        Check.due("no node behind the last", UNKNOWN, tree.node(10, 0));
        Check.due("a leaf is its own leaf", 1, tree.node(9, 6));
    }

    private static void promise8LastChild() {
        BracketTree flat = made(star(100));
        Check.due("the first child", 1, flat.child(0, 0));
        Check.due("the last child", 99, flat.child(0, 98));
        Check.due("it has not so many children", NONE, flat.child(0, 99));
        Check.due("a leaf has no child", NONE, flat.child(99, 0));
        Check.due("the only node has no child", NONE, new BracketTree().child(0, 0));
        Check.due("a grandchild is no child", NONE, made(chain(3)).child(0, 1));
        Check.due("the last child behind a subtree", 3, made("a(b(c)d)").child(0, 1));
    }

    private static void promise9Neighbours() {
        BracketTree tree = made("a(b(c)d(e(f)g))");
        Check.due("next child: none behind the last", NONE, tree.neighbour(3, 0));
        Check.due("next child: not a cousin", NONE, tree.neighbour(2, 0));
        Check.due("next child: not at the tree's end", NONE, tree.neighbour(6, 0));
        Check.due("previous child: none before the first", NONE, tree.neighbour(1, 1));
        Check.due("previous child: not a cousin", NONE, tree.neighbour(4, 1));
        Check.due("previous child: behind a subtree", 1, tree.neighbour(3, 1));
        Check.due("next of the depth: a cousin", 4, tree.neighbour(2, 2));
        Check.due("next of the depth: none behind the last", NONE, tree.neighbour(6, 2));
        Check.due("next of the depth: the only one", NONE, tree.neighbour(5, 2));
        Check.due("previous of the depth: a cousin", 2, tree.neighbour(4, 3));
        Check.due("previous of the depth: none before the first", NONE, tree.neighbour(2, 3));
        Check.due("next leaf: within its subtree", 5, tree.neighbour(3, 4));
        Check.due("next leaf: not a leaf itself", 5, tree.neighbour(2, 4));
        Check.due("next leaf: none behind the last", NONE, tree.neighbour(6, 4));
        Check.due("greatest child: the only one", 2, tree.neighbour(1, 5));
        Check.due("greatest child: the first one of several", 1, made("a(b(c)d(e))").neighbour(0, 5));
        Check.due("greatest child: the last one, if greater", 3, made("a(b(c)d(ef))").neighbour(0, 5));
        Check.due("greatest child: none of a leaf", NONE, tree.neighbour(5, 5));
        for (int which = 0; which <= 5; which++) {
            Check.due("the only node's neighbour " + which, NONE, new BracketTree().neighbour(0, which));
        }
        for (int which = 0; which <= 3; which++) {
            Check.due("the root's neighbour " + which, NONE, tree.neighbour(0, which));
        }
    }

    private static void promise10To12Ways() {
        BracketTree deep = made(chain(100));
        for (int depth = 0; depth < 100; depth++) {
            Check.due("ancestorAt(99, " + depth + ")", depth, deep.ancestorAt(99, depth));
        }
        Check.due("the depth behind the node's", BAD_VALUE, deep.ancestorAt(99, 100));
        Check.due("the depth behind an inner node's", BAD_VALUE, deep.ancestorAt(50, 51));
        Check.due("the root's own depth", 0, deep.ancestorAt(0, 0));
        Check.due("the depth behind the root's", BAD_VALUE, deep.ancestorAt(0, 1));
        Check.due("common: perhaps the same one", 99, deep.common(99, 99));
        Check.due("common of the first and the last", 0, deep.common(0, 99));
        Check.due("steps of the longest way down", 99, deep.way(0, 99, -1));
        Check.due("the last node of it", 99, deep.way(0, 99, 99));
        Check.due("no node behind it", NONE, deep.way(0, 99, 100));
        Check.due("the first node of the way up", 99, deep.way(99, 0, 0));
        Check.due("the last node of the way up", 0, deep.way(99, 0, 99));
        Check.due("no node behind it", NONE, deep.way(99, 0, 100));
        Check.due("0 steps for the same node", 0, deep.way(50, 50, -1));
        Check.due("the same node is the first", 50, deep.way(50, 50, 0));
        Check.due("and the only one", NONE, deep.way(50, 50, 1));
        BracketTree flat = made("a(bc)");
        Check.due("two steps by the parent", 2, flat.way(1, 2, -1));
        Check.due("the turn", 0, flat.way(1, 2, 1));
        Check.due("down from the turn", 2, flat.way(1, 2, 2));
        Check.due("no third step", NONE, flat.way(1, 2, 3));
    }

    private static void promise13And14Places() {
        BracketTree flat = made(star(100));
        Check.due("the only node of depth 0", 0, flat.level(0, 0));
        Check.due("no other one", NONE, flat.level(0, 1));
        Check.due("number of depth 0", 1, flat.level(0, -1));
        Check.due("number of depth 1", 99, flat.level(1, -1));
        Check.due("the last one of depth 1", 99, flat.level(1, 98));
        Check.due("none behind it", NONE, flat.level(1, 99));
        Check.due("number below the tree", 0, flat.level(2, -1));
        Check.due("none below the tree", NONE, flat.level(2, 0));
        Check.due("rank 0", 1, flat.byPostorder(0));
        Check.due("rank n - 2", 99, flat.byPostorder(98));
        Check.due("rank n - 1 is the root", 0, flat.byPostorder(99));
        Check.due("no rank n", BAD_VALUE, flat.byPostorder(100));
        Check.due("the only rank", 0, new BracketTree().byPostorder(0));
        Check.due("no second rank", BAD_VALUE, new BracketTree().byPostorder(1));
        BracketTree deep = made(chain(100));
        Check.due("the greatest depth", 99, deep.level(99, 0));
        Check.due("one node of it", 1, deep.level(99, -1));
        Check.due("no node of depth 100", 0, deep.level(100, -1));
        Check.due("rank 0 of a chain", 99, deep.byPostorder(0));
        // Room behind the last node must not count as a depth of 0.
        deep.cut(1);
        Check.due("one node of depth 0 after cut", 1, deep.level(0, -1));
        Check.due("none of depth 1 after cut", 0, deep.level(1, -1));
    }

    private static void promise15Deepest() {
        Check.due("the first one of several", 2, made("a(b(c)d(e))").deepest(0));
        Check.due("a deeper one behind it", 5, made("a(b(c)d(e(f)))").deepest(0));
        Check.due("a leaf itself", 99, made(star(100)).deepest(99));
        Check.due("the only node", 0, new BracketTree().deepest(0));
        Check.due("the end of a chain", 99, made(chain(100)).deepest(0));
        Check.due("not behind the subtree", 2, made("a(b(c)d(e(f)))").deepest(1));
    }

    private static void promise16RootsBrackets() {
        BracketTree tree = made("a(b)");
        Check.due("parent of the root's opening bracket", NONE, tree.bracket(0, 3));
        Check.due("parent of the root's closing bracket", NONE, tree.bracket(3, 3));
        Check.due("parent of an opening bracket", 0, tree.bracket(1, 3));
        Check.due("parent of a closing bracket", 0, tree.bracket(2, 3));
        Check.due("parent in the only node", NONE, new BracketTree().bracket(1, 3));
        Check.due("the last property", 0, tree.bracket(3, 4));
        Check.due("no property behind it", BAD_VALUE, tree.bracket(3, 5));
        Check.due("no property before the first", BAD_VALUE, tree.bracket(3, -1));
        Check.due("parent's opening bracket far away", 0, made(star(100)).bracket(198, 3));
        Check.due("parent's opening bracket close by", 98, made(chain(100)).bracket(100, 3));
    }

    private static void promise17Width() {
        BracketTree tree = new BracketTree();
        int previous = 8;
        for (int width = 4; width <= 32; width++) {
            Check.due("setWidth(" + width + ")", previous, tree.setWidth(width));
            previous = width;
        }
        Check.due("no width of 33", BAD_VALUE, tree.setWidth(33));
        Check.due("no width of 3", BAD_VALUE, tree.setWidth(3));
        Check.due("the same width again", 32, tree.setWidth(32));
        Check.due("a width is no edit", NONE, tree.undo());
        tree.setLabel(0, 'b');
        tree.setWidth(4);
        tree.undo();
        Check.due("undo leaves the width", 4, tree.setWidth(8));
    }

    private static void promise20SetLabel() {
        BracketTree tree = made(star(100));
        Check.due("the last node", 'b', tree.setLabel(99, 'z'));
        Check.due("an edit, also if it has this label already", 'z', tree.setLabel(99, 'z'));
        Check.due("one can be undone twice", 2, tree.undo());
        Check.due("the label stays", 'z', tree.node(99, 10));
        Check.due("once more", 1, tree.undo());
        Check.due("the label before", 'b', tree.node(99, 10));
        Check.due("a full tree takes labels", 'a', tree.setLabel(0, 'y'));
    }

    private static void promise21To23Labels() {
        BracketTree flat = made(star(100));
        Check.due("most of one label", 99, flat.labelled(0, 'b'));
        Check.due("the node itself counts", 1, flat.labelled(99, 'b'));
        Check.due("none of a label", 0, flat.labelled(0, 'c'));
        Check.due("the first one", 1, flat.select(0, 'b', 0));
        Check.due("the last one", 99, flat.select(0, 'b', 98));
        Check.due("not so many", NONE, flat.select(0, 'b', 99));
        Check.due("the node itself is the first", 99, flat.select(99, 'b', 0));
        Check.due("and the only one", NONE, flat.select(99, 'b', 1));
        Check.due("the root is no ancestor of itself", NONE, flat.ancestorWith(0, 'a'));
        Check.due("a leaf is no ancestor of itself", NONE, flat.ancestorWith(99, 'b'));
        Check.due("the root is an ancestor", 0, flat.ancestorWith(99, 'a'));
        Check.due("a parent's sibling before it is none", NONE, made("a(bc(d))").ancestorWith(3, 'b'));
        Check.due("a child of such a sibling is none", NONE, made("a(b(e)c(d(f)))").ancestorWith(5, 'e'));
        BracketTree deep = made(chain(100));
        Check.due("the greatest depth", 98, deep.ancestorWith(99, 'a'));
        deep.setLabel(0, 'r');
        Check.due("the least depth", 0, deep.ancestorWith(99, 'r'));
        flat.cut(99);
        Check.due("no node that is gone", 98, flat.labelled(0, 'b'));
        Check.due("nor found", NONE, flat.select(0, 'b', 98));
    }

    private static void promise25Copies() {
        Check.due("itself included", 1, new BracketTree().copies(0));
        Check.due("of a root, itself alone", 1, made(chain(100)).copies(0));
        Check.due("of a chain's end, itself alone", 1, made(chain(100)).copies(99));
        Check.due("of the last leaf", 99, made(star(100)).copies(99));
        Check.due("copies of copies", 2, made("a(b(c)b(c))").copies(3));
        Check.due("of a leaf not where it has children", 1, made("a(bb(c))").copies(1));
    }

    private static void promise26Insert() {
        BracketTree tree = made("a(b(c)d)");
        Check.due("place 0", 1, tree.insert(0, 0, 'x'));
        Check.due("place of their number", 5, tree.insert(0, 3, 'y'));
        Check.due("a place more", BAD_VALUE, tree.insert(0, 5, 'z'));
        is("at both ends", "a(xb(c)dy)", tree);
        Check.due("below a leaf", 6, tree.insert(5, 0, 'z'));
        Check.due("place 1 of a leaf", BAD_VALUE, tree.insert(6, 1, 'z'));
        is("below a leaf", "a(xb(c)dy(z))", tree);
        BracketTree full = grownChain(99);
        Check.due("the 100th node", 99, full.insert(98, 0, 'z'));
        is("the 100th node", repeat("a(", 99) + "z" + repeat(")", 99), full);
        Check.due("if there are 100 nodes", FULL, full.insert(99, 0, 'z'));
    }

    private static void promise27Wrap() {
        BracketTree tree = made("a(bcd)");
        Check.due("none before the first", 1, tree.wrap(0, 0, 0, 'x'));
        is("none before the first", "a(xbcd)", tree);
        tree.undo();
        Check.due("none behind the last", 4, tree.wrap(0, 3, 0, 'x'));
        is("none behind the last", "a(bcdx)", tree);
        tree.undo();
        Check.due("all", 1, tree.wrap(0, 0, 3, 'x'));
        is("all", "a(x(bcd))", tree);
        tree.undo();
        Check.due("the last one", 3, tree.wrap(0, 2, 1, 'x'));
        is("the last one", "a(bcx(d))", tree);
        tree.undo();
        Check.due("first behind their number", BAD_VALUE, tree.wrap(0, 4, 0, 'x'));
        Check.due("one more than all", BAD_VALUE, tree.wrap(0, 0, 4, 'x'));
        Check.due("one more than those behind first", BAD_VALUE, tree.wrap(0, 1, 3, 'x'));
        Check.due("one behind the last", BAD_VALUE, tree.wrap(0, 3, 1, 'x'));
        is("refused", "a(bcd)", tree);
        BracketTree full = made(star(99));
        Check.due("the 100th node", 1, full.wrap(0, 0, 98, 'x'));
        Check.due("if there are 100 nodes", FULL, full.wrap(0, 0, 0, 'x'));
        is("the full tree", "a(x(" + repeat("b", 98) + "))", full);
    }

    private static void promise28And29RemoveAndCut() {
        BracketTree flat = made(star(100));
        Check.due("remove the last node", 99, flat.remove(99));
        Check.due("remove the same number", UNKNOWN, flat.remove(99));
        Check.due("cut the last node", 98, flat.cut(98));
        Check.due("cut the same number", UNKNOWN, flat.cut(98));
        is("two are gone", star(98), flat);
        BracketTree deep = grownChain(100);
        Check.due("remove the root's only child", 99, deep.remove(1));
        Check.due("remove the end", 98, deep.remove(98));
        is("a shorter chain", chain(98), deep);
        Check.due("cut all but the root", 1, deep.cut(1));
        is("the root alone", "a", deep);
        BracketTree both = made("a(bc(" + repeat("d", 90) + ")e)");
        Check.due("remove a node of many children", 93, both.remove(2));
        is("its children take its place", "a(b" + repeat("d", 90) + "e)", both);
        both.undo();
        Check.due("cut a subtree of many", 3, both.cut(2));
        is("its siblings stay", "a(be)", both);
    }

    private static void promise30Move() {
        BracketTree tree = made("a(b(c)d)");
        Check.due("the last place among its siblings", 2, tree.move(1, 0, 1));
        is("b behind d", "a(db(c))", tree);
        Check.due("their number, without the node itself", BAD_VALUE, tree.move(2, 0, 2));
        Check.due("the first place", 1, tree.move(2, 0, 0));
        Check.due("the last place of another parent", 3, tree.move(3, 1, 1));
        is("d below b", "a(b(cd))", tree);
        Check.due("their number of another parent", BAD_VALUE, tree.move(3, 0, 2));
        Check.due("an only child to its own place", 1, tree.move(1, 0, 0));
        Check.due("an only child to no place", BAD_VALUE, tree.move(1, 0, 1));
        Check.due("the new parent is the node", NOT_POSSIBLE, tree.move(1, 1, 0));
        Check.due("the new parent is the subtree's last node", NOT_POSSIBLE, tree.move(1, 3, 0));
        Check.due("the root to itself", NOT_POSSIBLE, tree.move(0, 0, 0));
        Check.due("the root to the last node", NOT_POSSIBLE, tree.move(0, 3, 0));
        Check.due("the new parent stands just before", 3, tree.move(3, 2, 0));
        is("d below c", "a(b(c(d)))", tree);
        tree = made("a(b(c)d)");
        Check.due("the new parent stands just behind", 2, tree.move(1, 3, 0));
        is("b below d", "a(d(b(c)))", tree);
        BracketTree deep = grownChain(100);
        Check.due("the end of a full chain", 1, deep.move(99, 0, 0));
        Check.due("and back", 99, deep.move(1, 99, 0));
        is("the chain again", chain(100), deep);
        deep = grownChain(100);
        Check.due("98 nodes up", 1, deep.move(2, 0, 0));
        Check.due("behind their old parent", 2, deep.move(1, 0, 1));
        is("beside their old parent", "a(a" + chain(98) + ")", deep);
    }

    // ---- undo

    private static void promise31Undo() {
        fifteenOfEachNumber();
        eachEditDropsTheOldest();
        endlessRing();
        undoOfFullTrees();
        undoOfTheLastOne();
    }

    private static void fifteenOfEachNumber() {
        for (int edits = 0; edits <= 40; edits++) {
            BracketTree tree = new BracketTree();
            for (int i = 1; i <= edits; i++) {
                tree.setLabel(0, (char) ('a' + i % 26));
            }
            int kept = Math.min(edits, 15);
            for (int left = kept - 1; left >= 0; left--) {
                Check.due("undo of " + edits + " edits", left, tree.undo());
                Check.due("label then", 'a' + (edits - kept + left) % 26, tree.node(0, 10));
            }
            Check.due("no more of " + edits + " edits", NONE, tree.undo());
            Check.due("the oldest label of " + edits, 'a' + (edits - kept) % 26, tree.node(0, 10));
        }
    }

    private static int edit(BracketTree tree, int kind) {
        switch (kind) {
            case 0:
                return tree.read();
            case 1:
                return tree.setLabel(1, 'y');
            case 2:
                return tree.insert(0, 0, 'y');
            case 3:
                return tree.wrap(0, 0, 1, 'y');
            case 4:
                return tree.remove(1);
            case 5:
                return tree.cut(1);
            default:
                return tree.move(2, 1, 0);
        }
    }

    private static void eachEditDropsTheOldest() {
        String[] due = {"k(l)", "p(yc)", "p(ybc)", "p(y(b)c)", "p(c)", "p(c)", "p(b(c))"};
        for (int kind = 0; kind < due.length; kind++) {
            BracketTree tree = made("a(bc)");
            tree.clearText();
            typeAll(tree, "k(l)");
            for (int i = 1; i <= 15; i++) {
                tree.setLabel(0, (char) ('a' + i));
            }
            Check.due("edit " + kind, 1, edit(tree, kind) >= 0 ? 1 : 0);
            is("edit " + kind, due[kind], tree);
            Check.due("14 are left of edit " + kind, 14, tree.undo());
            is("undone edit " + kind, "p(bc)", tree);
            for (int left = 13; left >= 0; left--) {
                Check.due("and one less", left, tree.undo());
            }
            is("the oldest one that is kept", "b(bc)", tree);
            Check.due("older ones are dropped", NONE, tree.undo());
        }
    }

    // Edits and undos in turn, so that the kept trees pass their store's end at each place.
    private static void endlessRing() {
        BracketTree tree = new BracketTree();
        StringBuilder kept = new StringBuilder();
        char present = 'a';
        for (int i = 0; i < 120; i++) {
            if (i % 7 < 5) {
                kept.append(present);
                present = (char) ('a' + i % 26);
                tree.setLabel(0, present);
            } else {
                present = kept.charAt(kept.length() - 1);
                kept.setLength(kept.length() - 1);
                Check.due("undo in turn " + i, kept.length(), tree.undo());
            }
            if (kept.length() > 15) {
                kept.deleteCharAt(0);
            }
            Check.due("label in turn " + i, present, tree.node(0, 10));
        }
    }

    private static void undoOfFullTrees() {
        BracketTree tree = grownChain(100);
        tree.cut(1);
        Check.due("a tree of 100 comes back", 14, tree.undo());
        is("the chain of 100", chain(100), tree);
        tree = grownChain(100);
        for (int i = 0; i < 16; i++) {
            tree.setLabel(i, 'b');
        }
        for (int left = 14; left >= 0; left--) {
            Check.due("trees of 100 are kept whole", left, tree.undo());
        }
        is("the oldest of 15 full trees", "b" + chain(100).substring(1), tree);
        tree = made("a(bc)");
        tree.insert(2, 0, 'd');
        tree.undo();
        is("a smaller tree comes back", "a(bc)", tree);
        Check.due("the node that was more is gone", UNKNOWN, tree.node(3, 0));
    }

    private static void undoOfTheLastOne() {
        BracketTree tree = new BracketTree();
        typeAll(tree, "b(c)");
        tree.setWidth(6);
        Check.due("neither type nor setWidth is an edit", NONE, tree.undo());
        tree.read();
        Check.due("none are left behind the last one", 0, tree.undo());
        is("before the last one", "a", tree);
        Check.due("undo is no edit", NONE, tree.undo());
        Check.due("undo leaves the width", 6, tree.setWidth(8));
        Check.due("undo leaves the text", 4, tree.clearText());
        Check.due("clearText is no edit", NONE, tree.undo());
        tree.insert(0, 0, 'b');
        Check.due("an edit behind NONE", 0, tree.undo());
        is("before that edit", "a", tree);
    }
}
