/** Compares TreeCodes with PlainModel: on every short list, and in long runs that mix all calls. */
public final class ModelTest {
    private static final int LONGEST_OF_THE_SHORT = 12;
    private static final int RUNS = 4000;
    private static final int[] FAR = {
        Integer.MIN_VALUE, Integer.MIN_VALUE + 1, -65, -64, -2, -1, 63, 64, 65, 1 << 16, 1 << 30,
        Integer.MAX_VALUE - 1, Integer.MAX_VALUE
    };

    private static final Due due = new Due();
    private static final NumberRow row = new NumberRow();

    public static void main(String[] args) {
        everyShortList("", 0);
        for (int run = 0; run < RUNS; run++) {
            longRun();
        }
        due.end();
    }

    private static void everyShortList(String list, int open) {
        undoAll(list);
        for (Call question : Call.QUESTIONS) {
            askAll(list, question);
        }
        if (list.length() == LONGEST_OF_THE_SHORT) {
            return;
        }
        everyShortList(list + "(", open + 1);
        if (open > 0) {
            everyShortList(list + ")", open - 1);
        }
    }

    private static void undoAll(String list) {
        TreeCodes codes = new TreeCodes();
        PlainModel model = new PlainModel();
        write(list, codes, model);
        for (int i = 0; i <= list.length() + 1; i++) {
            compare(codes, model, Call.UNDO, 0, 0);
        }
    }

    private static void askAll(String list, Call question) {
        TreeCodes codes = new TreeCodes();
        PlainModel model = new PlainModel();
        write(list, codes, model);
        for (int v = -2; v <= list.length() + 1; v++) {
            for (int w = -2; w <= list.length() + 1; w++) {
                compare(codes, model, question, v, w);
            }
        }
    }

    private static void write(String list, TreeCodes codes, PlainModel model) {
        for (int i = 0; i < list.length(); i++) {
            compare(codes, model, list.charAt(i) == '(' ? Call.OPEN : Call.CLOSE, 0, 0);
        }
    }

    private static void longRun() {
        TreeCodes codes = new TreeCodes();
        PlainModel model = new PlainModel();
        // Some runs must grow to the full list and some stay near the empty one, some deep and some flat.
        int opens = 1 + row.below(8);
        int closes = 1 + row.below(8);
        int undos = row.below(4);
        int questions = 8;
        for (int i = 0; i < Lists.MOST_CALLS; i++) {
            int pick = row.below(opens + closes + undos + questions);
            Call call;
            if (pick < opens) {
                call = Call.OPEN;
            } else if (pick < opens + closes) {
                call = Call.CLOSE;
            } else if (pick < opens + closes + undos) {
                call = Call.UNDO;
            } else {
                call = Call.QUESTIONS.get(row.below(Call.QUESTIONS.size()));
            }
            compare(codes, model, call, argument(model), argument(model));
        }
    }

    private static int argument(PlainModel model) {
        return row.below(8) == 0 ? FAR[row.below(FAR.length)] : row.below(model.nodes() + 2);
    }

    private static void compare(TreeCodes codes, PlainModel model, Call call, int v, int w) {
        String list = model.text();
        int got = call.codes().answer(codes, v, w);
        int want = call.model().answer(model, v, w);
        due.is(() -> "list '" + list + "': " + call.name() + " with " + v + ", " + w, got, want);
    }
}
