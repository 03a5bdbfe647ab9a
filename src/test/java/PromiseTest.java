/** Each promise of the document by hand, on ordinary lists; its edges stand in ListEdgeTest and NodeEdgeTest. */
public final class PromiseTest {
    private static final int NONE = -1;
    private static final int FULL = -2;
    private static final int MOST_BRACKETS = Lists.MOST_BRACKETS;
    private static final String TREE = Lists.TREE;
    private static final String FOREST = Lists.FOREST;

    private static final Due due = new Due();

    public static void main(String[] args) {
        promise1NewObject();
        promise2Open();
        promise3Close();
        promise4Undo();
        promise4UndoForgetsNodes();
        promise5Nodes();
        promise6OpenNodes();
        promise7Parent();
        promise8Depth();
        promise9Size();
        promise10Children();
        promise11Child();
        promise12Next();
        promise13Previous();
        promise14Meet();
        promise15AboveAt();
        promise16Height();
        promise17LeavesBefore();
        openNodesCountAsClosedAtTheEnd();
        objectsKeepApart();
        due.end();
    }

    private static TreeCodes written(String list) {
        return Lists.written(due, list);
    }

    private static void promise1NewObject() {
        TreeCodes x = new TreeCodes();
        due.is("new: nodes()", x.nodes(), 0);
        due.is("new: openNodes()", x.openNodes(), 0);
        due.is("new: undo()", x.undo(), NONE);
        due.is("new: close()", x.close(), NONE);
        due.is("new: depth(0)", x.depth(0), NONE);
        due.is("new: open()", x.open(), 0);
        due.is("NONE", TreeCodes.NONE, NONE);
        due.is("FULL", TreeCodes.FULL, FULL);
    }

    private static void promise2Open() {
        TreeCodes x = new TreeCodes();
        due.is("first open()", x.open(), 0);
        due.is("open() in an open node", x.open(), 1);
        x.close();
        x.close();
        due.is("open() of a second root", x.open(), 2);
        for (int brackets = 5; brackets < MOST_BRACKETS; brackets++) {
            due.is("open() as bracket " + brackets, x.open(), brackets - 2);
        }
        due.is("open() as bracket 64", x.open(), FULL);
        due.is("open() when full, again", x.open(), FULL);
        due.is("nodes() after a refused open()", x.nodes(), 62);
        due.is("openNodes() after a refused open()", x.openNodes(), 60);
        due.is("undo() after a refused open()", x.undo(), 63);
        due.is("open() where one is free again", x.open(), 61);
        due.is("open() when full once more", x.open(), FULL);
    }

    private static void promise3Close() {
        TreeCodes x = written("(()(");
        due.is("close() of the last open", x.close(), 2);
        due.is("close() of the one that stays", x.close(), 0);
        due.is("close() when none is open", x.close(), NONE);
        due.is("a refused close() writes nothing", x.undo(), 5);
        due.is("close() again after undo()", x.close(), 0);

        TreeCodes open = written("(".repeat(MOST_BRACKETS));
        due.is("close() when full and one is open", open.close(), FULL);
        due.is("openNodes() after a refused close()", open.openNodes(), 64);
        due.is("undo() after a refused close()", open.undo(), 63);
        due.is("close() as the 64th bracket", open.close(), 62);
        due.is("close() when full again", open.close(), FULL);

        TreeCodes closed = written("()".repeat(MOST_BRACKETS / 2));
        due.is("close() when full and none is open", closed.close(), NONE);
        due.is("open() when full and none is open", closed.open(), FULL);
    }

    private static void promise4Undo() {
        TreeCodes x = written("(())()");
        due.is("undo() of a closing bracket", x.undo(), 5);
        due.is("its node is open again", x.openNodes(), 1);
        due.is("and still there", x.nodes(), 3);
        due.is("undo() of an opening bracket", x.undo(), 4);
        due.is("its node is gone", x.nodes(), 2);
        due.is("and none is open", x.openNodes(), 0);
        due.is("undo() of the root's end", x.undo(), 3);
        due.is("undo() of the child's end", x.undo(), 2);
        due.is("close() finds the child", x.close(), 1);
        due.is("close() finds the root", x.close(), 0);
        for (int left = 3; left >= 0; left--) {
            due.is("undo() to " + left, x.undo(), left);
        }
        due.is("undo() of nothing", x.undo(), NONE);
        due.is("undo() of nothing, again", x.undo(), NONE);
        due.is("open() after all is undone", x.open(), 0);
        due.is("undo() of it", x.undo(), 0);
    }

    private static void promise4UndoForgetsNodes() {
        TreeCodes x = written("()(()");
        x.undo();
        x.undo();
        due.is("children(1) without the one undone", x.children(1), 0);
        due.is("child(1, 0) of the one undone", x.child(1, 0), NONE);
        due.is("depth(2) of the one undone", x.depth(2), NONE);
        due.is("close() of 1 as a leaf", x.close(), 1);
        due.is("open() takes the number again", x.open(), 2);
        due.is("parent(2) is the new one", x.parent(2), NONE);
        due.is("previous(2) is the new one", x.previous(2), 1);
        due.is("leavesBefore(2) is the new one", x.leavesBefore(2), 2);
        due.is("undo() of the new one", x.undo(), 4);
        due.is("undo() of a closing bracket where an opening one had been", x.undo(), 3);
        due.is("its node is still there", x.nodes(), 2);
        due.is("and open", x.openNodes(), 1);
    }

    private static void promise5Nodes() {
        due.is("nodes() of TREE", written(TREE).nodes(), 8);
        due.is("nodes() of FOREST", written(FOREST).nodes(), 5);
        due.is("nodes() of a full row", written("()".repeat(32)).nodes(), 32);
        due.is("nodes() of a full chain", written("(".repeat(64)).nodes(), 64);
    }

    private static void promise6OpenNodes() {
        due.is("openNodes() of TREE", written(TREE).openNodes(), 3);
        due.is("openNodes() of FOREST", written(FOREST).openNodes(), 1);
        due.is("openNodes() of a closed list", written("(()())").openNodes(), 0);
        due.is("openNodes() of a full chain", written("(".repeat(64)).openNodes(), 64);
    }

    private interface Question {
        int answer(TreeCodes x, int v);
    }

    /** Asks about every node in its order, and about the numbers next to them that are no nodes. */
    private static void each(String name, String list, Question question, int... wants) {
        TreeCodes x = written(list);
        due.is(name + "(-1) in " + list, question.answer(x, -1), NONE);
        for (int v = 0; v < wants.length; v++) {
            due.is(name + "(" + v + ") in " + list, question.answer(x, v), wants[v]);
        }
        due.is("nodes() in " + list, x.nodes(), wants.length);
        due.is(name + " past the last in " + list, question.answer(x, wants.length), NONE);
    }

    private static void promise7Parent() {
        each("parent", TREE, TreeCodes::parent, NONE, 0, 1, 1, 0, 0, 5, 6);
        each("parent", FOREST, TreeCodes::parent, NONE, 0, NONE, 2, NONE);
    }

    private static void promise8Depth() {
        each("depth", TREE, TreeCodes::depth, 0, 1, 2, 2, 1, 1, 2, 3);
        each("depth", FOREST, TreeCodes::depth, 0, 1, 0, 1, 0);
    }

    private static void promise9Size() {
        each("size", TREE, TreeCodes::size, 8, 3, 1, 1, 1, 3, 2, 1);
        each("size", FOREST, TreeCodes::size, 2, 1, 2, 1, 1);
    }

    private static void promise10Children() {
        each("children", TREE, TreeCodes::children, 3, 2, 0, 0, 0, 1, 1, 0);
        each("children", FOREST, TreeCodes::children, 1, 0, 1, 0, 0);
    }

    private static void promise11Child() {
        each("child 0 of", TREE, (x, v) -> x.child(v, 0), 1, 2, NONE, NONE, NONE, 6, 7, NONE);
        each("child 1 of", TREE, (x, v) -> x.child(v, 1), 4, 3, NONE, NONE, NONE, NONE, NONE, NONE);
        each("child 2 of", TREE, (x, v) -> x.child(v, 2), 5, NONE, NONE, NONE, NONE, NONE, NONE, NONE);
        each("child 0 of", FOREST, (x, v) -> x.child(v, 0), 1, NONE, 3, NONE, NONE);
        TreeCodes x = written(TREE);
        for (int k : new int[] {Integer.MIN_VALUE, -2, -1, 3, 64, Integer.MAX_VALUE}) {
            due.is("child(0, " + k + ")", x.child(0, k), NONE);
        }
        due.is("child(-1, 0): roots have no parent", written(FOREST).child(-1, 0), NONE);
        due.is("child(-1, 1): roots have no parent", written(FOREST).child(-1, 1), NONE);
    }

    private static void promise12Next() {
        each("next", TREE, TreeCodes::next, NONE, 4, 3, NONE, 5, NONE, NONE, NONE);
        each("next", FOREST, TreeCodes::next, 2, NONE, 4, NONE, NONE);
    }

    private static void promise13Previous() {
        each("previous", TREE, TreeCodes::previous, NONE, NONE, NONE, 2, 1, 4, NONE, NONE);
        each("previous", FOREST, TreeCodes::previous, NONE, NONE, 0, NONE, 2);
    }

    private static void promise14Meet() {
        TreeCodes x = written(TREE);
        int[][] meets = {
            {2, 3, 1}, {2, 1, 1}, {2, 2, 2}, {3, 4, 0}, {7, 2, 0}, {7, 6, 6}, {7, 5, 5}, {0, 7, 0}, {4, 5, 0}
        };
        for (int[] m : meets) {
            due.is("meet(" + m[0] + ", " + m[1] + ")", x.meet(m[0], m[1]), m[2]);
            due.is("meet(" + m[1] + ", " + m[0] + ")", x.meet(m[1], m[0]), m[2]);
        }
        TreeCodes forest = written(FOREST);
        due.is("meet of nodes under two roots", forest.meet(1, 3), NONE);
        due.is("meet of a node and another root", forest.meet(1, 2), NONE);
        due.is("meet of two roots", forest.meet(4, 0), NONE);
        due.is("meet under the second root", forest.meet(3, 2), 2);
        for (int v : new int[] {Integer.MIN_VALUE, -1, 8, 64, Integer.MAX_VALUE}) {
            due.is("meet(" + v + ", 0)", x.meet(v, 0), NONE);
            due.is("meet(7, " + v + ")", x.meet(7, v), NONE);
            due.is("meet(" + v + ", itself)", x.meet(v, v), NONE);
        }
    }

    private static void promise15AboveAt() {
        each("aboveAt depth 0 of", TREE, (x, v) -> x.aboveAt(v, 0), 0, 0, 0, 0, 0, 0, 0, 0);
        each("aboveAt depth 1 of", TREE, (x, v) -> x.aboveAt(v, 1), NONE, 1, 1, 1, 4, 5, 5, 5);
        each("aboveAt depth 2 of", TREE, (x, v) -> x.aboveAt(v, 2), NONE, NONE, 2, 3, NONE, NONE, 6, 6);
        each("aboveAt depth 3 of", TREE, (x, v) -> x.aboveAt(v, 3), NONE, NONE, NONE, NONE, NONE, NONE, NONE, 7);
        each("aboveAt depth 0 of", FOREST, (x, v) -> x.aboveAt(v, 0), 0, 0, 2, 2, 4);
        TreeCodes x = written(TREE);
        for (int d : new int[] {Integer.MIN_VALUE, -2, -1, 4, 64, Integer.MAX_VALUE}) {
            due.is("aboveAt(7, " + d + ")", x.aboveAt(7, d), NONE);
        }
    }

    private static void promise16Height() {
        each("height", TREE, TreeCodes::height, 3, 1, 0, 0, 0, 2, 1, 0);
        each("height", FOREST, TreeCodes::height, 1, 0, 1, 0, 0);
        each("height", "((())())", TreeCodes::height, 2, 1, 0, 0);
    }

    private static void promise17LeavesBefore() {
        each("leavesBefore", TREE, TreeCodes::leavesBefore, 0, 0, 0, 1, 2, 3, 3, 3);
        each("leavesBefore", FOREST, TreeCodes::leavesBefore, 0, 0, 1, 1, 2);
    }

    private static void openNodesCountAsClosedAtTheEnd() {
        TreeCodes open = written("(()((");
        TreeCodes closed = written("(()(()))");
        for (int v = 0; v < 4; v++) {
            due.is("size(" + v + ") when open", open.size(v), closed.size(v));
            due.is("height(" + v + ") when open", open.height(v), closed.height(v));
            due.is("children(" + v + ") when open", open.children(v), closed.children(v));
            due.is("leavesBefore(" + v + ") when open", open.leavesBefore(v), closed.leavesBefore(v));
        }
        due.is("size(2) with an open child", open.size(2), 2);
        due.is("height(0) with open nodes", open.height(0), 2);
        due.is("asking closes nothing", open.openNodes(), 3);
        due.is("asking writes nothing", open.undo(), 4);
    }

    private static void objectsKeepApart() {
        TreeCodes one = written("((");
        TreeCodes other = new TreeCodes();
        due.is("nodes() of the other object", other.nodes(), 0);
        due.is("open() of the other object", other.open(), 0);
        due.is("depth(1) of the first object", one.depth(1), 1);
        due.is("depth(1) of the other object", other.depth(1), NONE);
    }
}
