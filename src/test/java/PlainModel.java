/**
 * The document's words put into code as literally as can be, with the list kept as text. It shares no way of
 * counting with TreeCodes: all that is asked comes from the parents, which are read off the text each time.
 */
final class PlainModel {
    private static final int NONE = -1;
    private static final int FULL = -2;
    private static final int MOST_BRACKETS = 64;
    private final StringBuilder list = new StringBuilder();

    String text() {
        return list.toString();
    }

    int open() {
        if (list.length() == MOST_BRACKETS) {
            return FULL;
        }
        list.append('(');
        return nodes() - 1;
    }

    int close() {
        int ended = lastOpen();
        if (ended == NONE) {
            return NONE;
        }
        if (list.length() == MOST_BRACKETS) {
            return FULL;
        }
        list.append(')');
        return ended;
    }

    int undo() {
        if (list.length() == 0) {
            return NONE;
        }
        list.setLength(list.length() - 1);
        return list.length();
    }

    int nodes() {
        return (int) list.chars().filter(c -> c == '(').count();
    }

    int openNodes() {
        return nodes() - (int) list.chars().filter(c -> c == ')').count();
    }

    int parent(int v) {
        return isNode(v) ? parents()[v] : NONE;
    }

    int depth(int v) {
        return isNode(v) ? depthIn(parents(), v) : NONE;
    }

    int size(int v) {
        if (!isNode(v)) {
            return NONE;
        }
        int[] parents = parents();
        int count = 0;
        for (int w = 0; w < parents.length; w++) {
            count += isAtOrAbove(parents, v, w) ? 1 : 0;
        }
        return count;
    }

    int children(int v) {
        return isNode(v) ? childrenIn(parents(), v) : NONE;
    }

    int child(int v, int k) {
        if (!isNode(v)) {
            return NONE;
        }
        int[] parents = parents();
        for (int w = 0; w < parents.length; w++) {
            int lesser = 0;
            for (int u = 0; u < w; u++) {
                lesser += parents[u] == v ? 1 : 0;
            }
            if (parents[w] == v && lesser == k) {
                return w;
            }
        }
        return NONE;
    }

    int next(int v) {
        if (!isNode(v)) {
            return NONE;
        }
        int[] parents = parents();
        for (int w = v + 1; w < parents.length; w++) {
            if (parents[w] == parents[v]) {
                return w;
            }
        }
        return NONE;
    }

    int previous(int v) {
        if (!isNode(v)) {
            return NONE;
        }
        int[] parents = parents();
        for (int u = v - 1; u >= 0; u--) {
            if (parents[u] == parents[v]) {
                return u;
            }
        }
        return NONE;
    }

    int meet(int v, int w) {
        if (!isNode(v) || !isNode(w)) {
            return NONE;
        }
        int[] parents = parents();
        int deepest = NONE;
        for (int u = 0; u < parents.length; u++) {
            boolean aboveBoth = isAtOrAbove(parents, u, v) && isAtOrAbove(parents, u, w);
            if (aboveBoth && (deepest == NONE || depthIn(parents, u) > depthIn(parents, deepest))) {
                deepest = u;
            }
        }
        return deepest;
    }

    int aboveAt(int v, int d) {
        if (!isNode(v)) {
            return NONE;
        }
        int[] parents = parents();
        for (int u = 0; u < parents.length; u++) {
            if (isAtOrAbove(parents, u, v) && depthIn(parents, u) == d) {
                return u;
            }
        }
        return NONE;
    }

    int height(int v) {
        if (!isNode(v)) {
            return NONE;
        }
        int[] parents = parents();
        int greatest = 0;
        for (int w = 0; w < parents.length; w++) {
            if (isAtOrAbove(parents, v, w)) {
                greatest = Math.max(greatest, depthIn(parents, w) - depthIn(parents, v));
            }
        }
        return greatest;
    }

    int leavesBefore(int v) {
        if (!isNode(v)) {
            return NONE;
        }
        int[] parents = parents();
        int count = 0;
        for (int u = 0; u < v; u++) {
            count += childrenIn(parents, u) == 0 ? 1 : 0;
        }
        return count;
    }

    private boolean isNode(int v) {
        return v >= 0 && v < nodes();
    }

    private int[] parents() {
        int[] parents = new int[nodes()];
        int begun = 0;
        int last = NONE;
        for (int i = 0; i < list.length(); i++) {
            if (list.charAt(i) == '(') {
                parents[begun] = last;
                last = begun;
                begun++;
            } else {
                last = parents[last];
            }
        }
        return parents;
    }

    private int lastOpen() {
        java.util.ArrayDeque<Integer> open = new java.util.ArrayDeque<>();
        int begun = 0;
        for (int i = 0; i < list.length(); i++) {
            if (list.charAt(i) == '(') {
                open.push(begun);
                begun++;
            } else {
                open.pop();
            }
        }
        return open.isEmpty() ? NONE : open.peek();
    }

    private static int depthIn(int[] parents, int v) {
        int depth = 0;
        for (int u = parents[v]; u != NONE; u = parents[u]) {
            depth++;
        }
        return depth;
    }

    private static boolean isAtOrAbove(int[] parents, int u, int v) {
        int at = v;
        while (at != NONE && at != u) {
            at = parents[at];
        }
        return at == u;
    }

    private static int childrenIn(int[] parents, int v) {
        int count = 0;
        for (int parent : parents) {
            count += parent == v ? 1 : 0;
        }
        return count;
    }
}
