import java.util.ArrayList;
import java.util.List;
import java.util.function.Consumer;

/**
 * A call that answers NONE or FULL leaves all answers as they were, and so does every question. All answers are
 * taken from objects with the same list, one that had the refused calls and one that had not; each question has
 * new objects, so that none gets past its 512 calls.
 */
public final class RefusedCallTest {
    private static final int NONE = -1;
    private static final int FULL = -2;
    private static final int LEAST = -2;
    private static final int GREATEST = 65;
    private static final int[] ENDS_OF_INT = {Integer.MIN_VALUE, Integer.MAX_VALUE};

    private static final Due due = new Due();

    public static void main(String[] args) {
        openThatIsFull();
        closeThatIsFull();
        closeThatIsNone();
        undoThatIsNone();
        questionsAboutNoNode();
        questionsWithWrongSecondArgument();
        questionsAboutEveryNode();
        due.end();
    }

    private static void openThatIsFull() {
        due.about("Promise 2: FULL leaves all answers as they were");
        for (String list : Lists.FULL_LISTS) {
            leavesAll("open()", list, x -> due.is("open()", x.open(), FULL));
            leavesAll("open() twice", list, x -> {
                due.is("open()", x.open(), FULL);
                due.is("open(), again", x.open(), FULL);
            });
        }
    }

    private static void closeThatIsFull() {
        due.about("Promise 3: FULL leaves all answers as they were");
        for (String list : Lists.FULL_WITH_OPEN_NODES) {
            leavesAll("close()", list, x -> due.is("close()", x.close(), FULL));
            leavesAll("close() twice", list, x -> {
                due.is("close()", x.close(), FULL);
                due.is("close(), again", x.close(), FULL);
            });
        }
    }

    private static void closeThatIsNone() {
        due.about("Promise 3: NONE leaves all answers as they were");
        for (String list : List.of("", "()", "(()())()", "()".repeat(31), Lists.ROW, Lists.NEST)) {
            leavesAll("close()", list, x -> due.is("close()", x.close(), NONE));
            leavesAll("close() twice", list, x -> {
                due.is("close()", x.close(), NONE);
                due.is("close(), again", x.close(), NONE);
            });
        }
    }

    private static void undoThatIsNone() {
        due.about("Promise 4: NONE leaves all answers as they were");
        leavesAll("undo()", "", x -> due.is("undo()", x.undo(), NONE));
        leavesAll("undo() twice", "", x -> {
            due.is("undo()", x.undo(), NONE);
            due.is("undo(), again", x.undo(), NONE);
        });
    }

    private static void questionsAboutNoNode() {
        due.about("Promises 7 to 17: NONE, as there is no node v, leaves all answers as they were");
        for (String list : Lists.ALL_SORTS) {
            for (Call question : Call.ABOUT_NODES) {
                leavesAll(question.name() + " of no node", list, x -> {
                    for (int v : Lists.noNodes(Lists.nodesIn(list))) {
                        due.is(question.name() + " of " + v, question.codes().answer(x, v, 0), NONE);
                    }
                });
            }
        }
    }

    private static void questionsWithWrongSecondArgument() {
        due.about("Promises 11, 14 and 15: NONE for a wrong second argument leaves all answers as they were");
        for (String list : Lists.ALL_SORTS) {
            leavesAll("child, meet and aboveAt", list, x -> {
                for (int w : ENDS_OF_INT) {
                    due.is("child(0, " + w + ")", x.child(0, w), NONE);
                    due.is("meet(0, " + w + ")", x.meet(0, w), NONE);
                    due.is("aboveAt(0, " + w + ")", x.aboveAt(0, w), NONE);
                }
            });
        }
    }

    private static void questionsAboutEveryNode() {
        due.about("Promises 5 to 17: a question leaves all answers as they were");
        for (String list : Lists.ALL_SORTS) {
            for (Call question : Call.QUESTIONS) {
                leavesAll(question.name() + " of every node", list, x -> {
                    for (int v = LEAST; v <= GREATEST; v++) {
                        question.codes().answer(x, v, 1);
                        question.codes().answer(x, 1, v);
                    }
                });
            }
        }
    }

    private static void leavesAll(String calls, String list, Consumer<TreeCodes> refused) {
        List<Integer> before = allAnswers(list, x -> { });
        List<Integer> after = allAnswers(list, refused);
        int differing = 0;
        for (int i = 0; i < before.size(); i++) {
            differing += before.get(i).equals(after.get(i)) ? 0 : 1;
        }
        due.is(calls + " in '" + list + "': how many answers it changes", differing, 0);
    }

    private static List<Integer> allAnswers(String list, Consumer<TreeCodes> refused) {
        List<Integer> answers = new ArrayList<>();
        for (Call call : Call.WRITING) {
            TreeCodes x = written(list, refused);
            answers.add(call.codes().answer(x, 0, 0));
            // What was written is told by taking it away again, to the end and past it.
            for (int i = 0; i <= Lists.MOST_BRACKETS; i++) {
                answers.add(x.nodes());
                answers.add(x.openNodes());
                answers.add(x.undo());
            }
        }
        for (Call question : Call.QUESTIONS) {
            for (int v = LEAST; v <= GREATEST; v++) {
                addAnswersAbout(v, question, written(list, refused), answers);
            }
        }
        return answers;
    }

    private static void addAnswersAbout(int v, Call question, TreeCodes x, List<Integer> answers) {
        for (int w = LEAST; w <= GREATEST; w++) {
            answers.add(question.codes().answer(x, v, w));
        }
    }

    private static TreeCodes written(String list, Consumer<TreeCodes> refused) {
        TreeCodes x = Lists.written(due, list);
        refused.accept(x);
        return x;
    }
}
