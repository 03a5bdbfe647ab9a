import java.util.stream.IntStream;

/**
 * The questions about nodes at their edges: each sentence of the promises 7 to 17 that names a boundary case has a
 * method of its own here, and so have the first and the last of what a call may answer.
 */
public final class NodeEdgeTest {
    private static final int NONE = -1;
    /** What is due for each node of the chain, where none has another beside it. */
    private static final int[] ALL_NONE = IntStream.generate(() -> NONE).limit(64).toArray();

    private static final Due due = new Due();

    private interface Question {
        int answer(TreeCodes x, int v);
    }

    public static void main(String[] args) {
        parentFromFirstToLast();
        parentOfARoot();
        parentOfNoNode();
        depthFromLeastToGreatest();
        depthOfNoNode();
        sizeFromLeastToGreatest();
        sizeOfNoNode();
        childrenFromLeastToGreatest();
        childrenAreNoGrandchildren();
        childrenOfNoNode();
        childFromFirstToLast();
        childWithTooFewOrTooMany();
        childOfALeaf();
        childOfNoNode();
        nextFromFirstToLast();
        nextOfARoot();
        nextOfTheLast();
        nextIsNoCousin();
        nextOfNoNode();
        previousFromFirstToLast();
        previousOfARoot();
        previousOfTheFirst();
        previousIsNoCousin();
        previousOfNoNode();
        meetFromFirstToLast();
        meetOfANodeAndOneAboveIt();
        meetIsTheDeepest();
        meetUnderTwoRoots();
        meetOfNoNode();
        aboveAtFromFirstToLast();
        aboveAtItself();
        aboveAtTooDeep();
        aboveAtLessThanNone();
        aboveAtOfNoNode();
        heightFromLeastToGreatest();
        heightOfWhatIsBelowAlone();
        heightOfNoNode();
        leavesBeforeFromLeastToGreatest();
        leavesBeforeCountsLesserOnesAlone();
        leavesBeforeCountsNodesWithoutChildrenAlone();
        leavesBeforeNoNode();
        due.end();
    }

    private static TreeCodes written(String list) {
        return Lists.written(due, list);
    }

    private static void each(String name, String list, Question question, int... wants) {
        TreeCodes x = written(list);
        due.is("nodes() in '" + list + "'", x.nodes(), wants.length);
        for (int v = 0; v < wants.length; v++) {
            due.is(name + "(" + v + ") in '" + list + "'", question.answer(x, v), wants[v]);
        }
    }

    private static void noneWhereNoNode(String name, Question question) {
        for (String list : Lists.ALL_SORTS) {
            TreeCodes x = written(list);
            for (int v : Lists.noNodes(Lists.nodesIn(list))) {
                due.is(name + "(" + v + ") in '" + list + "'", question.answer(x, v), NONE);
            }
        }
        noneWhereTheNodeWasTakenAway(name, question);
    }

    private static void noneWhereTheNodeWasTakenAway(String name, Question question) {
        TreeCodes chain = written(Lists.CHAIN);
        for (int v = 63; v >= 0; v--) {
            chain.undo();
            due.is(name + "(" + v + ") when it was taken away", question.answer(chain, v), NONE);
            due.is(name + "(63) when it was taken away", question.answer(chain, 63), NONE);
        }
    }

    // Promise 7

    private static void parentFromFirstToLast() {
        due.about("Promise 7: the parent of node v");
        TreeCodes chain = written(Lists.CHAIN);
        for (int v = 1; v < 64; v++) {
            due.is("chain: parent(" + v + ")", chain.parent(v), v - 1);
        }
        due.is("star: parent(32)", written(Lists.STAR).parent(32), 0);
        due.is("fork: parent(62)", written(Lists.FORK).parent(62), 60);
    }

    private static void parentOfARoot() {
        due.about("Promise 7: NONE when it is a root");
        due.is("parent of the only node", written("(").parent(0), NONE);
        due.is("parent of the first of the chain", written(Lists.CHAIN).parent(0), NONE);
        due.is("parent of the last of the row", written(Lists.ROW).parent(31), NONE);
        due.is("parent of a root after a deep one", written("(".repeat(31) + ")".repeat(31) + "(").parent(31), NONE);
    }

    private static void parentOfNoNode() {
        due.about("Promise 7: NONE when there is no node v");
        noneWhereNoNode("parent", TreeCodes::parent);
    }

    // Promise 8

    private static void depthFromLeastToGreatest() {
        due.about("Promise 8: the number of nodes above node v");
        TreeCodes chain = written(Lists.CHAIN);
        for (int v = 0; v < 64; v++) {
            due.is("chain: depth(" + v + ")", chain.depth(v), v);
        }
        due.is("row: depth(31)", written(Lists.ROW).depth(31), 0);
        due.is("star: depth(32)", written(Lists.STAR).depth(32), 1);
    }

    private static void depthOfNoNode() {
        due.about("Promise 8: NONE when there is no node v");
        noneWhereNoNode("depth", TreeCodes::depth);
    }

    // Promise 9

    private static void sizeFromLeastToGreatest() {
        due.about("Promise 9: the number of nodes at and below node v");
        TreeCodes chain = written(Lists.CHAIN);
        due.is("chain: size(0), the greatest", chain.size(0), 64);
        due.is("chain: size(63), the least", chain.size(63), 1);
        due.is("row: size(0), with others after it", written(Lists.ROW).size(0), 1);
        due.is("row: size(31), with others before it", written(Lists.ROW).size(31), 1);
        due.is("star: size(0)", written(Lists.STAR).size(0), 33);
        due.is("fork: size(60)", written(Lists.FORK).size(60), 3);
    }

    private static void sizeOfNoNode() {
        due.about("Promise 9: NONE when there is no node v");
        noneWhereNoNode("size", TreeCodes::size);
    }

    // Promise 10

    private static void childrenFromLeastToGreatest() {
        due.about("Promise 10: the number of nodes whose parent is v");
        due.is("children of the only node, the least", written("(").children(0), 0);
        due.is("star: children(0), the greatest", written(Lists.STAR).children(0), 32);
        due.is("star: children(32)", written(Lists.STAR).children(32), 0);
        due.is("chain: children(62)", written(Lists.CHAIN).children(62), 1);
        due.is("chain: children(63)", written(Lists.CHAIN).children(63), 0);
        due.is("fork: children(60)", written(Lists.FORK).children(60), 2);
    }

    private static void childrenAreNoGrandchildren() {
        due.about("Promise 10: whose parent is v, not those further below or beside it");
        due.is("chain: children(0)", written(Lists.CHAIN).children(0), 1);
        due.is("row: children(0)", written(Lists.ROW).children(0), 0);
        due.is("children of the first of two", written("((())(()()))").children(1), 1);
        due.is("children of the root of the two", written("((())(()()))").children(0), 2);
    }

    private static void childrenOfNoNode() {
        due.about("Promise 10: NONE when there is no node v");
        noneWhereNoNode("children", TreeCodes::children);
    }

    // Promise 11

    private static void childFromFirstToLast() {
        due.about("Promise 11: the node whose parent is v and that has exactly k lesser ones among those");
        TreeCodes star = written(Lists.STAR);
        for (int k = 0; k < 32; k++) {
            due.is("star: child(0, " + k + ")", star.child(0, k), k + 1);
        }
        due.is("chain: child(0, 0)", written(Lists.CHAIN).child(0, 0), 1);
        due.is("chain: child(62, 0), the greatest", written(Lists.CHAIN).child(62, 0), 63);
        TreeCodes x = written("((())(()()))");
        due.is("the second, past what is below the first", x.child(0, 1), 3);
        due.is("the second of the second", x.child(3, 1), 5);
    }

    private static void childWithTooFewOrTooMany() {
        due.about("Promise 11: NONE when there is none with k lesser ones");
        for (String list : Lists.ALL_SORTS) {
            for (int v = 0; v < Lists.nodesIn(list); v++) {
                TreeCodes x = written(list);
                for (int k : Lists.noNodes(x.children(v))) {
                    due.is("child(" + v + ", " + k + ") in '" + list + "'", x.child(v, k), NONE);
                }
            }
        }
        due.is("star: child(0, 32), one too many", written(Lists.STAR).child(0, 32), NONE);
        due.is("chain: child(0, 1), where 0 has one", written(Lists.CHAIN).child(0, 1), NONE);
        due.is("chain: child(0, -1)", written(Lists.CHAIN).child(0, -1), NONE);
    }

    private static void childOfALeaf() {
        due.about("Promise 11: NONE when v has none");
        due.is("child of the only node", written("(").child(0, 0), NONE);
        due.is("child of a node with one beside it", written("(()(").child(1, 0), NONE);
        due.is("child of a root with another after it", written("()(").child(0, 0), NONE);
        due.is("chain: child(63, 0)", written(Lists.CHAIN).child(63, 0), NONE);
    }

    private static void childOfNoNode() {
        due.about("Promise 11: NONE when there is none whose parent is v, as v is no node");
        noneWhereNoNode("child 0 of ", (x, v) -> x.child(v, 0));
        noneWhereNoNode("child 1 of ", (x, v) -> x.child(v, 1));
        noneWhereNoNode("child -1 of ", (x, v) -> x.child(v, -1));
        noneWhereNoNode("child of itself of ", (x, v) -> x.child(v, v));
        noneWhereNoNode("child MAX of ", (x, v) -> x.child(v, Integer.MAX_VALUE));
    }

    // Promise 12

    private static void nextFromFirstToLast() {
        due.about("Promise 12: the least node greater than v that has the same parent");
        TreeCodes star = written(Lists.STAR);
        for (int v = 1; v < 32; v++) {
            due.is("star: next(" + v + ")", star.next(v), v + 1);
        }
        due.is("fork: next(61), the greatest", written(Lists.FORK).next(61), 62);
        due.is("next past what is below", written("((())(").next(1), 3);
    }

    private static void nextOfARoot() {
        due.about("Promise 12: or is a root too");
        TreeCodes row = written(Lists.ROW);
        for (int v = 0; v < 31; v++) {
            due.is("row: next(" + v + ")", row.next(v), v + 1);
        }
        due.is("next root past a deep one", written("(".repeat(31) + ")".repeat(31) + "(").next(0), 31);
    }

    private static void nextOfTheLast() {
        due.about("Promise 12: NONE when there is none");
        due.is("next of the only node", written("(").next(0), NONE);
        due.is("next of the only node, ended", written("()").next(0), NONE);
        due.is("row: next(31)", written(Lists.ROW).next(31), NONE);
        due.is("star: next(32)", written(Lists.STAR).next(32), NONE);
        due.is("star: next(0), a root with children", written(Lists.STAR).next(0), NONE);
        due.is("fork: next(62)", written(Lists.FORK).next(62), NONE);
        each("next", Lists.CHAIN, TreeCodes::next, ALL_NONE);
    }

    private static void nextIsNoCousin() {
        due.about("Promise 12: that has the same parent, not only the same depth");
        due.is("next of a last child, with a cousin", written("((())(())").next(2), NONE);
        due.is("next of a child, with one under another root", written("(())(()").next(1), NONE);
        due.is("next of a last child, with one beside its parent", written("(()())(").next(2), NONE);
    }

    private static void nextOfNoNode() {
        due.about("Promise 12: NONE when there is no node v");
        noneWhereNoNode("next", TreeCodes::next);
    }

    // Promise 13

    private static void previousFromFirstToLast() {
        due.about("Promise 13: the greatest node less than v that has the same parent");
        TreeCodes star = written(Lists.STAR);
        for (int v = 2; v <= 32; v++) {
            due.is("star: previous(" + v + ")", star.previous(v), v - 1);
        }
        due.is("fork: previous(62), the greatest", written(Lists.FORK).previous(62), 61);
        due.is("previous past what is below it", written("((()())(").previous(4), 1);
    }

    private static void previousOfARoot() {
        due.about("Promise 13: or is a root too");
        TreeCodes row = written(Lists.ROW);
        for (int v = 1; v < 32; v++) {
            due.is("row: previous(" + v + ")", row.previous(v), v - 1);
        }
        due.is("previous root past a deep one", written("(".repeat(31) + ")".repeat(31) + "(").previous(31), 0);
    }

    private static void previousOfTheFirst() {
        due.about("Promise 13: NONE when there is none");
        due.is("previous of the only node", written("(").previous(0), NONE);
        due.is("row: previous(0)", written(Lists.ROW).previous(0), NONE);
        due.is("star: previous(1), a first child", written(Lists.STAR).previous(1), NONE);
        due.is("fork: previous(61)", written(Lists.FORK).previous(61), NONE);
        each("previous", Lists.CHAIN, TreeCodes::previous, ALL_NONE);
    }

    private static void previousIsNoCousin() {
        due.about("Promise 13: that has the same parent, not only the same depth");
        due.is("previous of a first child, with a cousin", written("((())(())").previous(4), NONE);
        due.is("previous of a child, with one under another root", written("(())(()").previous(3), NONE);
        due.is("previous of a first child, with one beside its parent", written("()((").previous(2), NONE);
    }

    private static void previousOfNoNode() {
        due.about("Promise 13: NONE as in next, when there is no node v");
        noneWhereNoNode("previous", TreeCodes::previous);
    }

    // Promise 14

    private static void meets(String list, int v, int w, int want) {
        due.is("meet(" + v + ", " + w + ") in '" + list + "'", written(list).meet(v, w), want);
        due.is("meet(" + w + ", " + v + ") in '" + list + "'", written(list).meet(w, v), want);
    }

    private static void meetFromFirstToLast() {
        due.about("Promise 14: the node that is v and w");
        for (String list : Lists.ALL_SORTS) {
            TreeCodes x = written(list);
            for (int v = 0; v < Lists.nodesIn(list); v++) {
                due.is("meet(" + v + ", " + v + ") in '" + list + "'", x.meet(v, v), v);
            }
        }
    }

    private static void meetOfANodeAndOneAboveIt() {
        due.about("Promise 14: v or above it and w or above it");
        for (int v = 0; v < 63; v++) {
            meets(Lists.CHAIN, v, 63, v);
        }
        meets(Lists.STAR, 0, 32, 0);
        meets("()(()", 1, 2, 1);
    }

    private static void meetIsTheDeepest() {
        due.about("Promise 14: the deepest node");
        meets(Lists.FORK, 61, 62, 60);
        meets(Lists.STAR, 1, 32, 0);
        meets(Lists.STAR, 31, 32, 0);
        meets("(((()())())())", 3, 4, 2);
        meets("(((()())())())", 3, 5, 1);
        meets("(((()())())())", 3, 6, 0);
    }

    private static void meetUnderTwoRoots() {
        due.about("Promise 14: NONE when there is none");
        meets(Lists.ROW, 0, 31, NONE);
        meets(Lists.ROW, 30, 31, NONE);
        meets("()(", 0, 1, NONE);
        meets("((()))((", 2, 4, NONE);
        meets("((()))((", 0, 4, NONE);
        meets("((()))((", 2, 3, NONE);
    }

    private static void meetOfNoNode() {
        due.about("Promise 14: NONE when there is none, as v or w is no node");
        noneWhereNoNode("meet with 0 of ", (x, v) -> x.meet(v, 0));
        noneWhereNoNode("meet of 0 with ", (x, v) -> x.meet(0, v));
        noneWhereNoNode("meet with the last of ", (x, v) -> x.meet(v, x.nodes() - 1));
        noneWhereNoNode("meet of the last with ", (x, v) -> x.meet(x.nodes() - 1, v));
        noneWhereNoNode("meet with itself of ", (x, v) -> x.meet(v, v));
        noneWhereNoNode("meet of the first and the last int, with ", (x, v) ->
            v < 0 ? x.meet(v, Integer.MAX_VALUE) : x.meet(v, Integer.MIN_VALUE));
    }

    // Promise 15

    private static void aboveAtFromFirstToLast() {
        due.about("Promise 15: the node above v with exactly d nodes above it");
        TreeCodes chain = written(Lists.CHAIN);
        for (int d = 0; d < 63; d++) {
            due.is("chain: aboveAt(63, " + d + ")", chain.aboveAt(63, d), d);
        }
        due.is("star: aboveAt(32, 0)", written(Lists.STAR).aboveAt(32, 0), 0);
        due.is("fork: aboveAt(62, 60)", written(Lists.FORK).aboveAt(62, 60), 60);
        due.is("above it, not beside it", written("(()(").aboveAt(2, 0), 0);
        due.is("under the second root", written("(())((").aboveAt(3, 0), 2);
    }

    private static void aboveAtItself() {
        due.about("Promise 15: or v itself");
        for (String list : Lists.ALL_SORTS) {
            TreeCodes x = written(list);
            for (int v = 0; v < Lists.nodesIn(list); v++) {
                due.is("aboveAt(" + v + ", its depth) in '" + list + "'", x.aboveAt(v, x.depth(v)), v);
            }
        }
    }

    private static void aboveAtTooDeep() {
        due.about("Promise 15: NONE when there is none, as v is less deep than d");
        for (String list : Lists.ALL_SORTS) {
            for (int v = 0; v < Lists.nodesIn(list); v++) {
                TreeCodes x = written(list);
                int depth = x.depth(v);
                for (int d = depth + 1; d < 66; d++) {
                    due.is("aboveAt(" + v + ", " + d + ") in '" + list + "'", x.aboveAt(v, d), NONE);
                }
                due.is("aboveAt(" + v + ", the greatest int) in '" + list + "'",
                    x.aboveAt(v, Integer.MAX_VALUE), NONE);
            }
        }
        due.is("a child is not above", written("((").aboveAt(0, 1), NONE);
        due.is("one below a lesser node is not above", written("(())(").aboveAt(2, 1), NONE);
    }

    private static void aboveAtLessThanNone() {
        due.about("Promise 15: NONE when there is none, as d is less than 0");
        for (String list : Lists.ALL_SORTS) {
            for (int v = 0; v < Lists.nodesIn(list); v++) {
                TreeCodes x = written(list);
                for (int d : new int[] {Integer.MIN_VALUE, Integer.MIN_VALUE + 1, -65536, -256, -64, -63, -2, -1}) {
                    due.is("aboveAt(" + v + ", " + d + ") in '" + list + "'", x.aboveAt(v, d), NONE);
                }
            }
        }
    }

    private static void aboveAtOfNoNode() {
        due.about("Promise 15: NONE when there is none, as v is no node");
        noneWhereNoNode("aboveAt depth 0 of ", (x, v) -> x.aboveAt(v, 0));
        noneWhereNoNode("aboveAt depth 1 of ", (x, v) -> x.aboveAt(v, 1));
        noneWhereNoNode("aboveAt depth 63 of ", (x, v) -> x.aboveAt(v, 63));
        noneWhereNoNode("aboveAt depth -1 of ", (x, v) -> x.aboveAt(v, -1));
        noneWhereNoNode("aboveAt depth MIN of ", (x, v) -> x.aboveAt(v, Integer.MIN_VALUE));
        noneWhereNoNode("aboveAt depth MAX of ", (x, v) -> x.aboveAt(v, Integer.MAX_VALUE));
    }

    // Promise 16

    private static void heightFromLeastToGreatest() {
        due.about("Promise 16: the greatest depth(w) - depth(v) of a node w at or below v");
        due.is("height of the only node, the least", written("(").height(0), 0);
        due.is("chain: height(0), the greatest", written(Lists.CHAIN).height(0), 63);
        due.is("chain: height(62)", written(Lists.CHAIN).height(62), 1);
        due.is("chain: height(63)", written(Lists.CHAIN).height(63), 0);
        due.is("star: height(0)", written(Lists.STAR).height(0), 1);
        due.is("the greatest is in the first child", written("((())()").height(0), 2);
        due.is("the greatest is in the last child", written("(()(()").height(0), 2);
    }

    private static void heightOfWhatIsBelowAlone() {
        due.about("Promise 16: at or below v, not beside it");
        due.is("a deeper root after it", written("()((").height(0), 0);
        due.is("a deeper root before it", written("((()))(()").height(3), 1);
        due.is("a deeper node beside it", written("(()((").height(1), 0);
        due.is("row: height(0)", written(Lists.ROW).height(0), 0);
    }

    private static void heightOfNoNode() {
        due.about("Promise 16: NONE when there is no node v");
        noneWhereNoNode("height", TreeCodes::height);
    }

    // Promise 17

    private static void leavesBeforeFromLeastToGreatest() {
        due.about("Promise 17: the number of nodes less than v that have no children");
        TreeCodes row = written(Lists.ROW);
        for (int v = 0; v < 32; v++) {
            due.is("row: leavesBefore(" + v + ")", row.leavesBefore(v), v);
        }
        due.is("star: leavesBefore(32), the greatest", written(Lists.STAR).leavesBefore(32), 31);
        due.is("fork: leavesBefore(62)", written(Lists.FORK).leavesBefore(62), 1);
        due.is("nest: leavesBefore(31)", written(Lists.NEST).leavesBefore(31), 0);
    }

    private static void leavesBeforeCountsLesserOnesAlone() {
        due.about("Promise 17: less than v, so v itself and those after it do not count");
        due.is("leavesBefore the only node", written("(").leavesBefore(0), 0);
        due.is("leavesBefore the first of two roots", written("()()").leavesBefore(0), 0);
        due.is("leavesBefore a leaf in the middle", written("()()()").leavesBefore(1), 1);
        due.is("fork: leavesBefore(61)", written(Lists.FORK).leavesBefore(61), 0);
    }

    private static void leavesBeforeCountsNodesWithoutChildrenAlone() {
        due.about("Promise 17: that have no children, also where v is the only child");
        due.is("leavesBefore an only child", written("((").leavesBefore(1), 0);
        due.is("leavesBefore an only child after a leaf", written("()((").leavesBefore(2), 1);
        due.is("chain: leavesBefore(63)", written(Lists.CHAIN).leavesBefore(63), 0);
        due.is("leavesBefore a root past a deep one", written("((()))(").leavesBefore(3), 1);
        due.is("leavesBefore, where a child was taken away", leafAgain(), 1);
    }

    /** Node 0 had a child, which was taken away before node 0 ended. */
    private static int leafAgain() {
        TreeCodes x = written("((");
        x.undo();
        x.close();
        x.open();
        return x.leavesBefore(1);
    }

    private static void leavesBeforeNoNode() {
        due.about("Promise 17: NONE when there is no node v");
        noneWhereNoNode("leavesBefore", TreeCodes::leavesBefore);
    }
}
