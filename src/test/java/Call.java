import java.util.List;
import java.util.stream.Stream;

/** A call by its name, so that tests can go through all of them; those that take fewer arguments leave v or w aside. */
record Call(String name, Asked<TreeCodes> codes, Asked<PlainModel> model) {
    interface Asked<T> {
        int answer(T of, int v, int w);
    }

    static final Call OPEN = new Call("open", (x, v, w) -> x.open(), (x, v, w) -> x.open());
    static final Call CLOSE = new Call("close", (x, v, w) -> x.close(), (x, v, w) -> x.close());
    static final Call UNDO = new Call("undo", (x, v, w) -> x.undo(), (x, v, w) -> x.undo());
    static final List<Call> WRITING = List.of(OPEN, CLOSE, UNDO);

    static final Call NODES = new Call("nodes", (x, v, w) -> x.nodes(), (x, v, w) -> x.nodes());
    static final Call OPEN_NODES = new Call("openNodes", (x, v, w) -> x.openNodes(), (x, v, w) -> x.openNodes());
    static final List<Call> ABOUT_NODES = List.of(
        new Call("parent", (x, v, w) -> x.parent(v), (x, v, w) -> x.parent(v)),
        new Call("depth", (x, v, w) -> x.depth(v), (x, v, w) -> x.depth(v)),
        new Call("size", (x, v, w) -> x.size(v), (x, v, w) -> x.size(v)),
        new Call("children", (x, v, w) -> x.children(v), (x, v, w) -> x.children(v)),
        new Call("child", (x, v, w) -> x.child(v, w), (x, v, w) -> x.child(v, w)),
        new Call("next", (x, v, w) -> x.next(v), (x, v, w) -> x.next(v)),
        new Call("previous", (x, v, w) -> x.previous(v), (x, v, w) -> x.previous(v)),
        new Call("meet", (x, v, w) -> x.meet(v, w), (x, v, w) -> x.meet(v, w)),
        new Call("aboveAt", (x, v, w) -> x.aboveAt(v, w), (x, v, w) -> x.aboveAt(v, w)),
        new Call("height", (x, v, w) -> x.height(v), (x, v, w) -> x.height(v)),
        new Call("leavesBefore", (x, v, w) -> x.leavesBefore(v), (x, v, w) -> x.leavesBefore(v)));
    static final List<Call> QUESTIONS =
        Stream.concat(Stream.of(NODES, OPEN_NODES), ABOUT_NODES.stream()).toList();
}
