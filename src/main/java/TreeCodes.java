/**
 * Walks about in a tree that is written as brackets.
 *
 * Nodes are numbered by their opening brackets, so the depths in the order of the numbers tell the
 * whole tree: what is below a node follows it directly, as far as the depths stay greater than its own.
 */
public final class TreeCodes {
    public static final int NONE = -1;
    public static final int FULL = -2;

    private static final int MOST_BRACKETS = 64;

    // A taken-away closing bracket opens its node again, an opening one drops it: undo must know which it was.
    private final boolean[] opening = new boolean[MOST_BRACKETS];
    // Every bracket may be an opening one, so there can be as many nodes as brackets.
    private final int[] depths = new int[MOST_BRACKETS];
    private int length = 0;
    private int nodeCount = 0;
    private int openCount = 0;

    public TreeCodes() {
    }

    public int open() {
        if (length >= MOST_BRACKETS) {
            return FULL;
        }
        int begun = nodeCount;
        opening[length] = true;
        depths[begun] = openCount;
        length++;
        nodeCount++;
        openCount++;
        return begun;
    }

    public int close() {
        // NONE goes before FULL: the document asks for FULL only when a node is open.
        if (openCount == 0) {
            return NONE;
        }
        if (length >= MOST_BRACKETS) {
            return FULL;
        }
        opening[length] = false;
        length++;
        openCount--;
        // All nodes begun after the last open one are below it, so none of them has its depth.
        return lastWithDepth(nodeCount - 1, openCount);
    }

    public int undo() {
        if (length == 0) {
            return NONE;
        }
        length--;
        if (opening[length]) {
            nodeCount--;
            openCount--;
        } else {
            openCount++;
        }
        return length;
    }

    public int nodes() {
        return nodeCount;
    }

    public int openNodes() {
        return openCount;
    }

    public int parent(int v) {
        if (!isNode(v)) {
            return NONE;
        }
        // For a root this looks for depth -1, which no node has.
        return lastWithDepth(v, depths[v] - 1);
    }

    public int depth(int v) {
        return isNode(v) ? depths[v] : NONE;
    }

    public int size(int v) {
        return isNode(v) ? firstPast(v) - v : NONE;
    }

    public int children(int v) {
        if (!isNode(v)) {
            return NONE;
        }
        int past = firstPast(v);
        int count = 0;
        for (int w = v + 1; w < past; w++) {
            if (depths[w] == depths[v] + 1) {
                count++;
            }
        }
        return count;
    }

    public int child(int v, int k) {
        // Roots have no parent, so they are not the children of NONE either.
        if (!isNode(v)) {
            return NONE;
        }
        int past = firstPast(v);
        int lesser = 0;
        for (int w = v + 1; w < past; w++) {
            if (depths[w] == depths[v] + 1) {
                if (lesser == k) {
                    return w;
                }
                lesser++;
            }
        }
        return NONE;
    }

    public int next(int v) {
        if (!isNode(v)) {
            return NONE;
        }
        int past = firstPast(v);
        return past < nodeCount && depths[past] == depths[v] ? past : NONE;
    }

    public int previous(int v) {
        if (!isNode(v)) {
            return NONE;
        }
        for (int u = v - 1; u >= 0; u--) {
            if (depths[u] <= depths[v]) {
                // A lesser depth is that of the parent, and nothing before it has the same parent.
                return depths[u] == depths[v] ? u : NONE;
            }
        }
        return NONE;
    }

    public int meet(int v, int w) {
        if (!isNode(v) || !isNode(w)) {
            return NONE;
        }
        int lesser = v < w ? v : w;
        int greater = v < w ? w : v;
        // Of the nodes above both, the deepest is the one begun last: the search goes downwards from there.
        for (int u = lesser; u >= 0; u--) {
            if (firstPast(u) > greater) {
                return u;
            }
        }
        return NONE;
    }

    public int aboveAt(int v, int d) {
        // Deeper than v there may be nodes before it, but they are not above it.
        if (!isNode(v) || d > depths[v]) {
            return NONE;
        }
        return lastWithDepth(v, d);
    }

    public int height(int v) {
        if (!isNode(v)) {
            return NONE;
        }
        int past = firstPast(v);
        int deepest = depths[v];
        for (int w = v + 1; w < past; w++) {
            if (depths[w] > deepest) {
                deepest = depths[w];
            }
        }
        return deepest - depths[v];
    }

    public int leavesBefore(int v) {
        if (!isNode(v)) {
            return NONE;
        }
        int count = 0;
        for (int u = 0; u < v; u++) {
            // A first child comes directly after its parent; u + 1 is at most v, so it is a node.
            if (depths[u + 1] <= depths[u]) {
                count++;
            }
        }
        return count;
    }

    private boolean isNode(int v) {
        return v >= 0 && v < nodeCount;
    }

    /** The first number after node v that is not below it; the number of nodes when all are. */
    private int firstPast(int v) {
        for (int w = v + 1; w < nodeCount; w++) {
            if (depths[w] <= depths[v]) {
                return w;
            }
        }
        return nodeCount;
    }

    /** The greatest node up to v with depth d: for d up to v's own depth, the node above v (or v) there. */
    private int lastWithDepth(int v, int d) {
        for (int u = v; u >= 0; u--) {
            if (depths[u] == d) {
                return u;
            }
        }
        return NONE;
    }
}
