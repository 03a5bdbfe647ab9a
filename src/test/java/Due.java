import java.util.function.Supplier;

/** Counts and prints the answers that are not the ones due. */
final class Due {
    private static final int MOST_PRINTED = 50;
    private int asked = 0;
    private int wrong = 0;
    private int wrongHere = 0;
    private String sentence = "";

    /** Names the sentence of the document that the answers from here on rest on. */
    void about(String words) {
        sentence = "[" + words + "] ";
        wrongHere = 0;
    }

    void is(String call, long got, long want) {
        is(() -> call, got, want);
    }

    /** For calls in great number: the text is made only for an answer that is wrong. */
    void is(Supplier<String> call, long got, long want) {
        asked++;
        if (got != want) {
            tellWrong(call.get() + " answered " + got + ", due is " + want);
        }
    }

    void holds(String claim, boolean isSo) {
        holds(() -> claim, isSo);
    }

    void holds(Supplier<String> claim, boolean isSo) {
        asked++;
        if (!isSo) {
            tellWrong("does not hold: " + claim.get());
        }
    }

    private void tellWrong(String words) {
        wrong++;
        wrongHere++;
        // One broken sentence must not drown the others.
        if (wrongHere <= MOST_PRINTED) {
            System.out.println(sentence + words);
        }
    }

    /** To be called last: ends the program with exit code 1 when an answer was wrong, or none was asked for. */
    void end() {
        System.out.println(asked + " answers, " + wrong + " not as due");
        if (wrong != 0 || asked == 0) {
            System.exit(1);
        }
    }
}
