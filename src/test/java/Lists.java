import java.util.List;
import java.util.stream.IntStream;

/** Lists of brackets that the tests share, and how one is written into a new object. */
final class Lists {
    static final int MOST_BRACKETS = 64;
    /** The document promises nothing past this many calls on one object, so no test asks for an answer further on. */
    static final int MOST_CALLS = 512;

    /** Node 0 has the children 1, 4 and 5; 1 has 2 and 3; 5 has 6, and 6 has 7. The nodes 0, 5 and 6 are open. */
    static final String TREE = "((()())()((()";
    /** Two roots with a child each, then an open one without. */
    static final String FOREST = "(())(())(";

    /** Full, all nodes open: the most nodes, the greatest depth. */
    static final String CHAIN = "(".repeat(64);
    /** Full, none open: the most roots. */
    static final String ROW = "()".repeat(32);
    /** Full, none open, one root. */
    static final String NEST = "(".repeat(32) + ")".repeat(32);
    /** Full, two nodes open (with 64 brackets one alone can't be): the most children. */
    static final String STAR = "(" + "()".repeat(31) + "(";
    /** Full, the deepest two nodes with the same parent. */
    static final String FORK = "(".repeat(61) + "()(";

    static final List<String> FULL_LISTS = List.of(CHAIN, ROW, NEST, STAR, FORK);
    static final List<String> FULL_WITH_OPEN_NODES = List.of(CHAIN, STAR, FORK);
    static final List<String> FULL_ALL_CLOSED = List.of(ROW, NEST);
    static final List<String> ALL_SORTS =
        List.of("", "(", "()", "()(", "(()", TREE, FOREST, CHAIN, ROW, NEST, STAR, FORK);

    private Lists() {
    }

    static TreeCodes written(Due due, String list) {
        TreeCodes x = new TreeCodes();
        for (int i = 0; i < list.length(); i++) {
            int at = i;
            int answer = list.charAt(at) == '(' ? x.open() : x.close();
            due.holds(() -> "bracket " + at + " of '" + list + "' is taken", answer >= 0);
        }
        return x;
    }

    static int nodesIn(String list) {
        return (int) list.chars().filter(c -> c == '(').count();
    }

    /**
     * Numbers that are no node where there are so many nodes: next to the nodes, at the ends of int, and such as
     * would be taken for a node if only their last 6, 8 or 16 bits, or their amount, were looked at.
     */
    static int[] noNodes(int nodes) {
        return IntStream.of(
            Integer.MIN_VALUE, Integer.MIN_VALUE + 1, -65536, -256, -65, -64, -63, -2, -1,
            nodes, nodes + 1, 31, 32, 33, 62, 63, 64, 65, 127, 128, 256, 65536, 1 << 30,
            Integer.MAX_VALUE - 1, Integer.MAX_VALUE)
            .filter(v -> v < 0 || v >= nodes).toArray();
    }
}
