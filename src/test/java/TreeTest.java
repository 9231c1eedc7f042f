/**
 * What the tests by hand share: trees made of texts, and the texts of trees. No object is asked more
 * than the 512 calls for which the document promises answers.
 */
class TreeTest {
    static final int UNKNOWN = BracketTree.UNKNOWN;
    static final int BAD_VALUE = BracketTree.BAD_VALUE;
    static final int NOT_POSSIBLE = BracketTree.NOT_POSSIBLE;
    static final int FULL = BracketTree.FULL;
    static final int NONE = BracketTree.NONE;
    static final int LEAST = Integer.MIN_VALUE;
    static final int MOST = Integer.MAX_VALUE;

    // Nodes: 0 a, 1 b, 2 c, 3 c, 4 d, 5 e, 6 b, 7 c, 8 c, 9 f
    static final String SAMPLE = "a(b(cc)d(e)b(cc)f)";

    static int typeAll(BracketTree tree, String text) {
        int length = 0;
        for (int i = 0; i < text.length(); i++) {
            length = tree.type(text.charAt(i));
        }
        return length;
    }

    static BracketTree made(String text) {
        BracketTree tree = new BracketTree();
        typeAll(tree, text);
        if (tree.read() < 1) {
            Check.fail("reading " + text);
        }
        return tree;
    }

    static int readingOf(String text) {
        BracketTree tree = new BracketTree();
        tree.setLabel(0, 'q');
        typeAll(tree, text);
        int answer = tree.read();
        if (answer < 0) {
            is("the tree after a fault in " + text, "q", tree);
        }
        return answer;
    }

    static String written(BracketTree tree) {
        StringBuilder text = new StringBuilder();
        int length = tree.written(-1);
        for (int k = 0; k < length; k++) {
            text.append((char) tree.written(k));
        }
        return text.toString();
    }

    static void is(String what, String want, BracketTree tree) {
        String got = written(tree);
        if (want.equals(got)) {
            Check.due(what, 0, 0);
        } else {
            Check.fail(what + " is " + got + ", due is " + want + ",");
        }
    }

    static String repeat(String part, int times) {
        return part.repeat(times);
    }

    static String chain(int nodes) {
        return repeat("a(", nodes - 1) + "a" + repeat(")", nodes - 1);
    }

    // The same chain by fewer calls than its text has characters.
    static BracketTree grownChain(int nodes) {
        BracketTree tree = new BracketTree();
        for (int n = 1; n < nodes; n++) {
            tree.insert(n - 1, 0, 'a');
        }
        return tree;
    }

    static String star(int nodes) {
        return "a(" + repeat("b", nodes - 1) + ")";
    }
}
