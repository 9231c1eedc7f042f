/**
 * Long runs of chosen calls, each answered by the program and by the model, which must agree. A run
 * ends with the 512th call of its object, the last one for which the document promises an answer.
 */
public final class ModelTests {
    private static final int CALLS = 512;
    private static final int[] EXTREMES = {
        Integer.MIN_VALUE, Integer.MIN_VALUE + 1, -1000, -6, -5, -2, 101, 200, 1 << 27, 1 << 30,
        Integer.MAX_VALUE - 1, Integer.MAX_VALUE};
    private static final char[] ODD = {'A', '`', '{', '(', ')', ' ', (char) 0, (char) 225, (char) 65535};

    // A generator of its own, so that each run is the same on each machine.
    private long state;
    private BracketTree tree;
    private ModelTree model;
    private int played;
    private StringBuilder calls;
    private int letters;
    private boolean growing;

    public static void main(String[] args) {
        int runs = args.length > 0 ? Integer.parseInt(args[0]) : 2000;
        for (int run = 0; run < runs && Check.failures() == 0; run++) {
            new ModelTests().playRun(run);
        }
        Check.close("ModelTests");
    }

    private int pick(int bound) {
        state = state * 6364136223846793005L + 1442695040888963407L;
        return (int) ((state >>> 33) % bound);
    }

    private void playRun(int run) {
        state = 77 + run;
        pick(9);
        tree = new BracketTree();
        model = new ModelTree();
        letters = run % 3 == 0 ? 2 : run % 3 == 1 ? 4 : 26;
        growing = run % 2 == 0;
        calls = new StringBuilder();
        if (pick(3) == 0) {
            readWhole(big() ? 100 : 1 + pick(60));
        }
        while (played < CALLS && Check.failures() == 0) {
            playCall();
        }
        if (Check.failures() > 0) {
            System.out.println("run " + run + ": " + calls + "in " + model.text());
        }
    }

    private void playCall() {
        if (pick(100) < (growing ? 55 : 30)) {
            playEdit();
        } else {
            playQuestion();
        }
    }

    private boolean big() {
        return pick(2) == 0;
    }

    private void same(String what, int want, int got) {
        played++;
        calls.append(what).append("; ");
        Check.due(what, want, got);
    }

    // ---- choices

    private int someNode() {
        int n = model.size();
        return pick(60) == 0 ? EXTREMES[pick(EXTREMES.length)] : pick(20) == 0 ? n + 1 - pick(3) : pick(n);
    }

    private int some(int bound) {
        return pick(60) == 0 ? EXTREMES[pick(EXTREMES.length)] : pick(bound + 3) - 1;
    }

    private char someLabel() {
        return pick(40) == 0 ? ODD[pick(ODD.length)] : (char) ('a' + pick(letters));
    }

    private int childrenOf(int node) {
        return Math.max(0, model.node(node, 2));
    }

    private String randomText(int nodes) {
        StringBuilder text = new StringBuilder().append((char) ('a' + pick(letters)));
        int open = 0;
        int shape = 1 + pick(5);
        for (int i = 1; i < nodes; i++) {
            boolean behindLetter = text.charAt(text.length() - 1) != ')';
            if (open == 0 || behindLetter && pick(shape + 1) == 0) {
                text.append('(');
                open++;
            }
            text.append((char) ('a' + pick(letters)));
            while (open > 1 && pick(4) == 0) {
                text.append(')');
                open--;
            }
        }
        return text.append(")".repeat(open)).toString();
    }

    private void readWhole(int nodes) {
        String text = randomText(nodes);
        same("clearText()", model.clearText(), tree.clearText());
        typeAndRead(text);
    }

    private void typeAndRead(String text) {
        if (text.length() >= CALLS - played) {
            return;
        }
        for (int i = 0; i < text.length(); i++) {
            same("type(" + text.charAt(i) + ")", model.type(text.charAt(i)), tree.type(text.charAt(i)));
        }
        same("read() of " + text, model.read(), tree.read());
    }

    private void readDamaged() {
        StringBuilder text = new StringBuilder(randomText(1 + pick(growing ? 104 : 12)));
        for (int i = pick(3); i > 0 && text.length() > 1; i--) {
            int place = pick(text.length());
            if (pick(2) == 0) {
                text.deleteCharAt(place);
            } else {
                text.insert(place, "abc()()? ".charAt(pick(9)));
            }
        }
        // Now and then behind the old text, so that some texts get full.
        if (pick(4) != 0) {
            same("clearText()", model.clearText(), tree.clearText());
        }
        typeAndRead(text.toString());
    }

    private void playEdit() {
        int node = someNode();
        int other = someNode();
        char label = someLabel();
        int k = some(childrenOf(node));
        switch (pick(growing ? 22 : 16)) {
            case 0, 1 -> same("setLabel(" + node + ", " + label + ")",
                    model.setLabel(node, label), tree.setLabel(node, label));
            case 2, 3 -> same("remove(" + node + ")", model.remove(node), tree.remove(node));
            case 4 -> same("cut(" + node + ")", model.cut(node), tree.cut(node));
            case 5, 6, 7 -> same("undo()", model.undo(), tree.undo());
            case 8, 9, 10 -> {
                int place = some(childrenOf(other));
                same("move(" + node + ", " + other + ", " + place + ")",
                        model.move(node, other, place), tree.move(node, other, place));
            }
            case 11, 12 -> {
                int many = some(Math.max(0, childrenOf(node) - Math.max(0, k)));
                same("wrap(" + node + ", " + k + ", " + many + ", " + label + ")",
                        model.wrap(node, k, many, label), tree.wrap(node, k, many, label));
            }
            case 13 -> {
                if (pick(4) == 0) {
                    readDamaged();
                } else {
                    same("read()", model.read(), tree.read());
                }
            }
            default -> same("insert(" + node + ", " + k + ", " + label + ")",
                    model.insert(node, k, label), tree.insert(node, k, label));
        }
    }

    private void playQuestion() {
        if (pick(2) == 0) {
            askWay();
        } else {
            askLabels();
        }
    }

    private void askWay() {
        int node = someNode();
        int other = someNode();
        switch (pick(12)) {
            case 0 -> same("size()", model.size(), tree.size());
            case 1, 2 -> {
                int what = some(10);
                same("node(" + node + ", " + what + ")", model.node(node, what), tree.node(node, what));
            }
            case 3 -> {
                int k = some(childrenOf(node));
                same("child(" + node + ", " + k + ")", model.child(node, k), tree.child(node, k));
            }
            case 4, 5 -> {
                int which = some(5);
                same("neighbour(" + node + ", " + which + ")",
                        model.neighbour(node, which), tree.neighbour(node, which));
            }
            case 6 -> {
                int depth = some(Math.max(0, model.node(node, 0)));
                same("ancestorAt(" + node + ", " + depth + ")",
                        model.ancestorAt(node, depth), tree.ancestorAt(node, depth));
            }
            case 7 -> same("common(" + node + ", " + other + ")",
                    model.common(node, other), tree.common(node, other));
            case 8 -> {
                int k = some(6);
                same("way(" + node + ", " + other + ", " + k + ")",
                        model.way(node, other, k), tree.way(node, other, k));
            }
            case 9 -> {
                int depth = some(model.node(0, 4));
                int k = some(5);
                same("level(" + depth + ", " + k + ")", model.level(depth, k), tree.level(depth, k));
            }
            case 10 -> same("byPostorder(" + node + ")", model.byPostorder(node), tree.byPostorder(node));
            default -> same("deepest(" + node + ")", model.deepest(node), tree.deepest(node));
        }
    }

    private void askLabels() {
        int node = someNode();
        int other = someNode();
        char label = someLabel();
        switch (pick(12)) {
            case 0, 1 -> {
                int position = some(2 * model.size());
                int what = some(4);
                same("bracket(" + position + ", " + what + ")",
                        model.bracket(position, what), tree.bracket(position, what));
            }
            case 2 -> {
                int width = some(33);
                same("setWidth(" + width + ")", model.setWidth(width), tree.setWidth(width));
            }
            case 3, 4 -> {
                int block = some(model.space(4));
                int what = some(3);
                same("block(" + block + ", " + what + ")", model.block(block, what), tree.block(block, what));
            }
            case 5 -> {
                int what = some(4);
                same("space(" + what + ")", model.space(what), tree.space(what));
            }
            case 6 -> same("labelled(" + node + ", " + label + ")",
                    model.labelled(node, label), tree.labelled(node, label));
            case 7 -> {
                int k = some(3);
                same("select(" + node + ", " + label + ", " + k + ")",
                        model.select(node, label, k), tree.select(node, label, k));
            }
            case 8 -> same("ancestorWith(" + node + ", " + label + ")",
                    model.ancestorWith(node, label), tree.ancestorWith(node, label));
            case 9 -> same("areEqual(" + node + ", " + other + ")",
                    model.areEqual(node, other), tree.areEqual(node, other));
            case 10 -> same("copies(" + node + ")", model.copies(node), tree.copies(node));
            default -> {
                int k = some(model.written(-1));
                same("written(" + k + ")", model.written(k), tree.written(k));
            }
        }
    }
}
