/**
 * The list at its edges: each sentence of 'What it is', 'Terms' and the promises 1 to 6 that names a boundary
 * case has a method of its own here. What refused calls leave as it was stands in RefusedCallTest.
 */
public final class ListEdgeTest {
    private static final int NONE = -1;
    private static final int FULL = -2;

    private static final Due due = new Due();

    public static void main(String[] args) {
        atMost512Calls();
        atMost64Brackets();
        closesTheLastStillOpen();
        numberedByOpeningBrackets();
        aboveWhenOpenAtTheBegin();
        theLastOpenIsTheParent();
        severalRoots();
        asIfClosedAtTheEnd();
        asIfClosedWhereNoBracketFits();
        askingClosesNothing();
        newObjectIsEmpty();
        newObjectHasNoNode();
        newObjectBesideAFullOne();
        openAnswersTheNumber();
        openIsFullAt64();
        openIsNotFullBelow64();
        closeAnswersTheNumber();
        closeIsNoneWhenNoneIsOpen();
        closeIsNoneBeforeItIsFull();
        closeIsFullAt64WithOneOpen();
        closeIsNotFullBelow64();
        undoTakesAnOpeningBracket();
        undoTakesAClosingBracket();
        undoTakesTheLastAlone();
        undoAnswersWhatIsLeft();
        undoIsNoneWhenThereIsNone();
        undoAfterRefusedCalls();
        nodesAtTheEdges();
        nodesCountsOpeningBracketsAlone();
        openNodesAtTheEdges();
        openNodesCountsOpenOnesAlone();
        due.end();
    }

    private static TreeCodes written(String list) {
        return Lists.written(due, list);
    }

    // What it is, and Terms

    private static void atMost512Calls() {
        due.about("What it is: at most 512 calls after it has been made");
        TreeCodes writing = new TreeCodes();
        for (int call = 1; call < Lists.MOST_CALLS; call += 2) {
            due.is("open() as call " + call, writing.open(), 0);
            due.is("undo() as call " + (call + 1), writing.undo(), 0);
        }

        TreeCodes refusing = written(Lists.CHAIN);
        for (int call = 65; call < Lists.MOST_CALLS; call++) {
            due.is("open() as call " + call, refusing.open(), FULL);
        }
        due.is("undo() as call 512", refusing.undo(), 63);

        TreeCodes asking = written(Lists.CHAIN);
        for (int call = 65; call <= Lists.MOST_CALLS; call++) {
            due.is("parent(63) as call " + call, asking.parent(63), 62);
        }
    }

    private static void atMost64Brackets() {
        due.about("Terms: a LIST of at most 64 brackets");
        for (String list : Lists.FULL_LISTS) {
            due.is("length of '" + list + "'", list.length(), 64);
            TreeCodes x = written(list);
            due.holds("no opening bracket after '" + list + "'", x.open() < 0);
            due.holds("no closing bracket after '" + list + "'", x.close() < 0);
            due.is("undo() after '" + list + "'", x.undo(), 63);
        }
    }

    private static void closesTheLastStillOpen() {
        due.about("Terms: a closing bracket closes the last node that is still open");
        TreeCodes nest = written("(".repeat(32));
        for (int v = 31; v >= 0; v--) {
            due.is("close() in the nest", nest.close(), v);
        }
        TreeCodes x = written("(()()");
        due.is("close() past two children that are ended", x.close(), 0);
        TreeCodes second = written("()(()");
        due.is("close() under the second root", second.close(), 1);
    }

    private static void numberedByOpeningBrackets() {
        due.about("Terms: nodes are numbered 0, 1, .. by the order of their opening brackets");
        TreeCodes x = new TreeCodes();
        due.is("the first", x.open(), 0);
        due.is("the second, inside", x.open(), 1);
        x.close();
        due.is("the third, after a closing bracket", x.open(), 2);
        x.undo();
        due.is("the third again, after it was taken away", x.open(), 2);
        x.close();
        x.undo();
        due.is("the fourth, after a closing bracket was taken away", x.open(), 3);
    }

    private static void aboveWhenOpenAtTheBegin() {
        due.about("Terms: a node that is open when another one begins is above it");
        due.is("none above the first", written("(").depth(0), 0);
        due.is("one that is ended is not above", written("()(").depth(1), 0);
        due.is("one that is ended later is above", written("(())").depth(1), 1);
        due.is("one that is open again by undo() is above", reopened().depth(1), 1);
        due.is("63 above the last of the chain", written(Lists.CHAIN).depth(63), 63);
    }

    /** Node 1 begins in node 0, whose closing bracket was written before and taken away. */
    private static TreeCodes reopened() {
        TreeCodes x = written("()");
        x.undo();
        x.open();
        return x;
    }

    private static void theLastOpenIsTheParent() {
        due.about("Terms: the last one that is open is its PARENT");
        due.is("the last of two open ones", written("(((").parent(2), 1);
        due.is("not the last begun, which is ended", written("(()(").parent(2), 0);
        due.is("not the ended one nor what is below it", written("((()))()(").parent(4), NONE);
        due.is("one that is open again by undo()", reopened().parent(1), 0);
        due.is("the last parent that there can be", written(Lists.CHAIN).parent(63), 62);
    }

    private static void severalRoots() {
        due.about("Terms: a node without parent is a ROOT; there can be several");
        TreeCodes row = written(Lists.ROW);
        for (int v = 0; v < 32; v++) {
            due.is("row: parent(" + v + ")", row.parent(v), NONE);
            due.is("row: depth(" + v + ")", row.depth(v), 0);
        }
        TreeCodes open = written("()".repeat(31) + "(");
        due.is("an open root after 31 others", open.parent(31), NONE);
        due.is("its child", open.open(), 32);
        due.is("the child is no root", open.parent(32), 31);
    }

    private static void asIfClosedAtTheEnd() {
        due.about("Terms: all that is asked is about the list as if all open nodes were closed at its end");
        for (String list : new String[] {"(", "((", "(()", "()(", "()((", "(()((", "((()(", Lists.TREE, Lists.FOREST}) {
            int nodes = Lists.nodesIn(list);
            String closed = list + ")".repeat(2 * nodes - list.length());
            for (Call question : Call.ABOUT_NODES) {
                TreeCodes open = written(list);
                TreeCodes ended = written(closed);
                for (int v = -1; v <= nodes; v++) {
                    for (int w = -1; w <= nodes; w++) {
                        due.is(question.name() + " with " + v + ", " + w + " in '" + list + "'",
                            question.codes().answer(open, v, w), question.codes().answer(ended, v, w));
                    }
                }
            }
        }
    }

    private static void asIfClosedWhereNoBracketFits() {
        due.about("Terms: as if all open nodes were closed, where no closing bracket fits in any more");
        TreeCodes x = written(Lists.CHAIN);
        for (int v = 0; v < 64; v++) {
            due.is("chain: size(" + v + ")", x.size(v), 64 - v);
            due.is("chain: height(" + v + ")", x.height(v), 63 - v);
            due.is("chain: children(" + v + ")", x.children(v), v < 63 ? 1 : 0);
            due.is("chain: leavesBefore(" + v + ")", x.leavesBefore(v), 0);
        }
    }

    private static void askingClosesNothing() {
        due.about("Terms: as if closed, so that nothing is written by asking");
        for (Call question : Call.QUESTIONS) {
            TreeCodes x = written("(()((");
            question.codes().answer(x, 0, 0);
            due.is("openNodes() after " + question.name(), x.openNodes(), 3);
            due.is("close() after " + question.name(), x.close(), 3);
            due.is("undo() after " + question.name(), x.undo(), 5);
        }
    }

    // Promise 1

    private static void newObjectIsEmpty() {
        due.about("Promise 1: an empty list");
        due.is("new: nodes()", new TreeCodes().nodes(), 0);
        due.is("new: openNodes()", new TreeCodes().openNodes(), 0);
        due.is("new: open()", new TreeCodes().open(), 0);
        due.is("new: close()", new TreeCodes().close(), NONE);
        due.is("new: undo()", new TreeCodes().undo(), NONE);
    }

    private static void newObjectHasNoNode() {
        due.about("Promise 1: an empty list has no node");
        for (Call question : Call.ABOUT_NODES) {
            for (int v : Lists.noNodes(0)) {
                TreeCodes x = new TreeCodes();
                due.is("new: " + question.name() + " with " + v + ", 0", question.codes().answer(x, v, 0), NONE);
                due.is("new: " + question.name() + " with 0, " + v, question.codes().answer(x, 0, v), NONE);
                due.is("new: " + question.name() + " with " + v + " twice", question.codes().answer(x, v, v), NONE);
            }
        }
    }

    private static void newObjectBesideAFullOne() {
        due.about("Promise 1: an empty list, whatever another object has");
        TreeCodes full = written(Lists.CHAIN);
        TreeCodes x = new TreeCodes();
        due.is("nodes() beside a full one", x.nodes(), 0);
        due.is("undo() beside a full one", x.undo(), NONE);
        due.is("depth(0) beside a full one", x.depth(0), NONE);
        due.is("open() beside a full one", x.open(), 0);
        x.close();
        due.is("open() of a second root beside a full one", x.open(), 1);
        due.is("depth(1) there", x.depth(1), 0);
        due.is("depth(1) of the full one", full.depth(1), 1);
        due.is("nodes() of the full one", full.nodes(), 64);
    }

    // Promise 2

    private static void openAnswersTheNumber() {
        due.about("Promise 2: answers the number of the node that it begins");
        TreeCodes chain = new TreeCodes();
        for (int v = 0; v < 64; v++) {
            due.is("open() number " + v, chain.open(), v);
        }
        due.is("open() of a root as bracket 63", written("()".repeat(31)).open(), 31);
        due.is("open() as bracket 64", written("(" + "()".repeat(31)).open(), 32);
    }

    private static void openIsFullAt64() {
        due.about("Promise 2: FULL when the list has 64 brackets");
        for (String list : Lists.FULL_LISTS) {
            TreeCodes x = written(list);
            due.is("open() after '" + list + "'", x.open(), FULL);
            due.is("open() after '" + list + "', again", x.open(), FULL);
        }
    }

    private static void openIsNotFullBelow64() {
        due.about("Promise 2: not FULL when the list has 63 brackets");
        for (String list : Lists.FULL_LISTS) {
            String shorter = list.substring(0, 63);
            due.is("open() after '" + shorter + "'", written(shorter).open(), Lists.nodesIn(shorter));
            TreeCodes undone = written(list);
            undone.open();
            undone.undo();
            due.is("open() after undo() in '" + list + "'", undone.open(), Lists.nodesIn(shorter));
            due.is("open() when it is full again", undone.open(), FULL);
        }
    }

    // Promise 3

    private static void closeAnswersTheNumber() {
        due.about("Promise 3: answers the number of the node that it ends");
        due.is("close() of the least node", written("(").close(), 0);
        due.is("close() of a root after another", written("()(").close(), 1);
        due.is("close() of a child after another", written("(()(").close(), 2);
        due.is("close() of the greatest that can be ended", written("(".repeat(63)).close(), 62);
        due.is("close() of node 0 as bracket 64", written("(" + "()".repeat(31)).close(), 0);
    }

    private static void closeIsNoneWhenNoneIsOpen() {
        due.about("Promise 3: NONE when no node is open");
        for (String list : new String[] {"", "()", "(())", "()()", "(()())()", "()".repeat(31)}) {
            TreeCodes x = written(list);
            due.is("close() after '" + list + "'", x.close(), NONE);
            due.is("close() after '" + list + "', again", x.close(), NONE);
        }
        TreeCodes undone = written("()(");
        undone.undo();
        due.is("close() when the open one is taken away", undone.close(), NONE);
        due.is("close() when its end is taken away", closeAfterUndo("()"), 0);
    }

    private static int closeAfterUndo(String list) {
        TreeCodes x = written(list);
        x.undo();
        return x.close();
    }

    private static void closeIsNoneBeforeItIsFull() {
        due.about("Promise 3: FULL only when one is open: NONE when the list has 64 brackets and none is");
        for (String list : Lists.FULL_ALL_CLOSED) {
            TreeCodes x = written(list);
            due.is("close() after '" + list + "'", x.close(), NONE);
            due.is("close() after '" + list + "', again", x.close(), NONE);
        }
    }

    private static void closeIsFullAt64WithOneOpen() {
        due.about("Promise 3: FULL when the list has 64 brackets (and one is open)");
        for (String list : Lists.FULL_WITH_OPEN_NODES) {
            TreeCodes x = written(list);
            due.is("close() after '" + list + "'", x.close(), FULL);
            due.is("close() after '" + list + "', again", x.close(), FULL);
        }
    }

    private static void closeIsNotFullBelow64() {
        due.about("Promise 3: not FULL when the list has 63 brackets");
        due.is("close() with one open", written("()".repeat(31) + "(").close(), 31);
        due.is("close() with all open", written("(".repeat(63)).close(), 62);
        due.is("close() where the chain has place again", closeAfterUndo(Lists.CHAIN), 62);
        due.is("close() where the star has place again", closeAfterUndo(Lists.STAR), 0);
        due.is("close() where the row has place again", closeAfterUndo(Lists.ROW), 31);
    }

    // Promise 4

    private static void undoTakesAnOpeningBracket() {
        due.about("Promise 4: takes the last bracket away, an opening one");
        TreeCodes x = written("(()((");
        due.is("undo()", x.undo(), 4);
        due.is("nodes()", x.nodes(), 3);
        due.is("openNodes()", x.openNodes(), 2);
        due.is("depth(3) of the one taken away", x.depth(3), NONE);
        due.is("children(2) that had it", x.children(2), 0);
        due.is("size(0) that had it", x.size(0), 3);
        due.is("height(0) that had it", x.height(0), 1);
        due.is("close() of the one that held it", x.close(), 2);
    }

    private static void undoTakesAClosingBracket() {
        due.about("Promise 4: takes the last bracket away, a closing one");
        TreeCodes x = written("(()())");
        due.is("undo()", x.undo(), 5);
        due.is("nodes()", x.nodes(), 3);
        due.is("openNodes()", x.openNodes(), 1);
        due.is("open() is below the one open again", x.open(), 3);
        due.is("parent(3)", x.parent(3), 0);
        due.is("undo() of it", x.undo(), 5);
        due.is("undo() of the inner end", x.undo(), 4);
        due.is("close() of the inner one again", x.close(), 2);
        due.is("close() of the outer one again", x.close(), 0);
    }

    private static void undoTakesTheLastAlone() {
        due.about("Promise 4: takes the last bracket away, and no other");
        for (String list : Lists.FULL_LISTS) {
            for (Call question : Call.QUESTIONS) {
                TreeCodes undone = written(list);
                undone.undo();
                TreeCodes shorter = written(list.substring(0, 63));
                for (int v = 0; v < 64; v++) {
                    due.is(question.name() + " with " + v + ", 1 after undo() in '" + list + "'",
                        question.codes().answer(undone, v, 1), question.codes().answer(shorter, v, 1));
                }
            }
        }
    }

    private static void undoAnswersWhatIsLeft() {
        due.about("Promise 4: answers the number of brackets left");
        for (String list : Lists.FULL_LISTS) {
            TreeCodes x = written(list);
            for (int left = 63; left >= 0; left--) {
                due.is("undo() in '" + list + "'", x.undo(), left);
            }
        }
    }

    private static void undoIsNoneWhenThereIsNone() {
        due.about("Promise 4: NONE when there is none");
        for (String list : Lists.ALL_SORTS) {
            TreeCodes x = written(list);
            for (int i = 0; i < list.length(); i++) {
                x.undo();
            }
            due.is("undo() when all of '" + list + "' is taken away", x.undo(), NONE);
            due.is("undo() when all is taken away, again", x.undo(), NONE);
            due.is("close() then", x.close(), NONE);
            due.is("open() then", x.open(), 0);
            due.is("undo() of it", x.undo(), 0);
            due.is("undo() when there is none once more", x.undo(), NONE);
        }
    }

    private static void undoAfterRefusedCalls() {
        due.about("Promise 4: takes the last bracket away, not a refused one");
        for (String list : Lists.FULL_LISTS) {
            TreeCodes x = written(list);
            x.open();
            x.close();
            due.is("undo() after refused calls in '" + list + "'", x.undo(), 63);
        }
        TreeCodes closed = written("()");
        closed.close();
        due.is("undo() after a close() that found none", closed.undo(), 1);
        due.is("openNodes() then", closed.openNodes(), 1);
    }

    // Promises 5 and 6

    private static void nodesAtTheEdges() {
        due.about("Promise 5: the number of nodes, from the least to the most");
        due.is("nodes() of the empty list", written("").nodes(), 0);
        due.is("nodes() of one", written("(").nodes(), 1);
        due.is("nodes() of the chain", written(Lists.CHAIN).nodes(), 64);
        due.is("nodes() of the row", written(Lists.ROW).nodes(), 32);
        due.is("nodes() of the nest", written(Lists.NEST).nodes(), 32);
        due.is("nodes() of the star", written(Lists.STAR).nodes(), 33);
    }

    private static void nodesCountsOpeningBracketsAlone() {
        due.about("Promise 5: the number of nodes, open or not, and of no refused ones");
        TreeCodes x = written("(");
        x.close();
        due.is("nodes() after close()", x.nodes(), 1);
        x.close();
        due.is("nodes() after a refused close()", x.nodes(), 1);
        x.undo();
        due.is("nodes() after undo() of the end", x.nodes(), 1);
        x.undo();
        due.is("nodes() after undo() of the begin", x.nodes(), 0);
        x.undo();
        due.is("nodes() after a refused undo()", x.nodes(), 0);
        TreeCodes full = written(Lists.CHAIN);
        full.open();
        due.is("nodes() after a refused open()", full.nodes(), 64);
    }

    private static void openNodesAtTheEdges() {
        due.about("Promise 6: the number of nodes that are open, from the least to the most");
        due.is("openNodes() of the empty list", written("").openNodes(), 0);
        due.is("openNodes() of one", written("(").openNodes(), 1);
        due.is("openNodes() of the chain", written(Lists.CHAIN).openNodes(), 64);
        due.is("openNodes() of the row", written(Lists.ROW).openNodes(), 0);
        due.is("openNodes() of the nest", written(Lists.NEST).openNodes(), 0);
        due.is("openNodes() of the star", written(Lists.STAR).openNodes(), 2);
    }

    private static void openNodesCountsOpenOnesAlone() {
        due.about("Promise 6: the number of nodes that are open, after each kind of call");
        TreeCodes x = written("(");
        x.close();
        due.is("openNodes() after close()", x.openNodes(), 0);
        x.close();
        due.is("openNodes() after a refused close()", x.openNodes(), 0);
        x.undo();
        due.is("openNodes() after undo() of the end", x.openNodes(), 1);
        x.undo();
        due.is("openNodes() after undo() of the begin", x.openNodes(), 0);
        x.undo();
        due.is("openNodes() after a refused undo()", x.openNodes(), 0);
        TreeCodes full = written(Lists.CHAIN);
        full.open();
        due.is("openNodes() after a refused open()", full.openNodes(), 64);
        full.close();
        due.is("openNodes() after a close() that is FULL", full.openNodes(), 64);
    }
}
