import java.util.List;

/** Compares TreeCodes with PlainModel: on every short list, and in long runs that mix all calls. */
public final class ModelTest {
    private interface Asked<T> {
        int answer(T of, int v, int w);
    }

    private record Call(String name, Asked<TreeCodes> codes, Asked<PlainModel> model) {
    }

    private static final Call OPEN = new Call("open", (x, v, w) -> x.open(), (x, v, w) -> x.open());
    private static final Call CLOSE = new Call("close", (x, v, w) -> x.close(), (x, v, w) -> x.close());
    private static final Call UNDO = new Call("undo", (x, v, w) -> x.undo(), (x, v, w) -> x.undo());
    private static final List<Call> QUESTIONS = List.of(
        new Call("nodes", (x, v, w) -> x.nodes(), (x, v, w) -> x.nodes()),
        new Call("openNodes", (x, v, w) -> x.openNodes(), (x, v, w) -> x.openNodes()),
        new Call("parent", (x, v, w) -> x.parent(v), (x, v, w) -> x.parent(v)),
        new Call("depth", (x, v, w) -> x.depth(v), (x, v, w) -> x.depth(v)),
        new Call("size", (x, v, w) -> x.size(v), (x, v, w) -> x.size(v)),
        new Call("children", (x, v, w) -> x.children(v), (x, v, w) -> x.children(v)),
        new Call("child", (x, v, w) -> x.child(v, w), (x, v, w) -> x.child(v, w)),
        new Call("next", (x, v, w) -> x.next(v), (x, v, w) -> x.next(v)),
        new Call("previous", (x, v, w) -> x.previous(v), (x, v, w) -> x.previous(v)),
        new Call("meet", (x, v, w) -> x.meet(v, w), (x, v, w) -> x.meet(v, w)),
        new Call("aboveAt", (x, v, w) -> x.aboveAt(v, w), (x, v, w) -> x.aboveAt(v, w)),
        new Call("height", (x, v, w) -> x.height(v), (x, v, w) -> x.height(v)),
        new Call("leavesBefore", (x, v, w) -> x.leavesBefore(v), (x, v, w) -> x.leavesBefore(v)));

    // The document promises nothing past this many calls on one object, so no test goes further.
    private static final int MOST_CALLS = 512;
    private static final int LONGEST_OF_THE_SHORT = 12;
    private static final int RUNS = 4000;
    private static final int[] FAR = {
        Integer.MIN_VALUE, Integer.MIN_VALUE + 1, -65, -64, -2, -1, 63, 64, 65, 1 << 16, 1 << 30,
        Integer.MAX_VALUE - 1, Integer.MAX_VALUE
    };

    private static final Due due = new Due();
    // A fixed row of numbers, so that every run of the tests is the same.
    private static long row = 20261115L;

    public static void main(String[] args) {
        everyShortList("", 0);
        for (int run = 0; run < RUNS; run++) {
            longRun();
        }
        due.end();
    }

    private static void everyShortList(String list, int open) {
        undoAll(list);
        for (Call question : QUESTIONS) {
            askAll(list, question);
        }
        if (list.length() == LONGEST_OF_THE_SHORT) {
            return;
        }
        everyShortList(list + "(", open + 1);
        if (open > 0) {
            everyShortList(list + ")", open - 1);
        }
    }

    private static void undoAll(String list) {
        TreeCodes codes = new TreeCodes();
        PlainModel model = new PlainModel();
        write(list, codes, model);
        for (int i = 0; i <= list.length() + 1; i++) {
            compare(codes, model, UNDO, 0, 0);
        }
    }

    private static void askAll(String list, Call question) {
        TreeCodes codes = new TreeCodes();
        PlainModel model = new PlainModel();
        write(list, codes, model);
        for (int v = -2; v <= list.length() + 1; v++) {
            for (int w = -2; w <= list.length() + 1; w++) {
                compare(codes, model, question, v, w);
            }
        }
    }

    private static void write(String list, TreeCodes codes, PlainModel model) {
        for (int i = 0; i < list.length(); i++) {
            compare(codes, model, list.charAt(i) == '(' ? OPEN : CLOSE, 0, 0);
        }
    }

    private static void longRun() {
        TreeCodes codes = new TreeCodes();
        PlainModel model = new PlainModel();
        // Some runs must grow to the full list and some stay near the empty one, some deep and some flat.
        int opens = 1 + below(8);
        int closes = 1 + below(8);
        int undos = below(4);
        int questions = 8;
        for (int i = 0; i < MOST_CALLS; i++) {
            int pick = below(opens + closes + undos + questions);
            Call call;
            if (pick < opens) {
                call = OPEN;
            } else if (pick < opens + closes) {
                call = CLOSE;
            } else if (pick < opens + closes + undos) {
                call = UNDO;
            } else {
                call = QUESTIONS.get(below(QUESTIONS.size()));
            }
            compare(codes, model, call, argument(model), argument(model));
        }
    }

    private static int argument(PlainModel model) {
        return below(8) == 0 ? FAR[below(FAR.length)] : below(model.nodes() + 2);
    }

    private static int below(int bound) {
        row = row * 6364136223846793005L + 1442695040888963407L;
        return (int) ((row >>> 33) % bound);
    }

    private static void compare(TreeCodes codes, PlainModel model, Call call, int v, int w) {
        String list = model.text();
        int got = call.codes().answer(codes, v, w);
        int want = call.model().answer(model, v, w);
        due.is(() -> "list '" + list + "': " + call.name() + " with " + v + ", " + w, got, want);
    }
}
