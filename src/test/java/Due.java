import java.util.function.Supplier;

/** Counts and prints the answers that are not the ones due. */
final class Due {
    private static final int MOST_PRINTED = 50;
    private int asked = 0;
    private int wrong = 0;

    void is(String call, long got, long want) {
        is(() -> call, got, want);
    }

    /** For calls in great number: the text is made only for an answer that is wrong. */
    void is(Supplier<String> call, long got, long want) {
        asked++;
        if (got != want) {
            wrong++;
            if (wrong <= MOST_PRINTED) {
                System.out.println(call.get() + " answered " + got + ", due is " + want);
            }
        }
    }

    void holds(String claim, boolean isSo) {
        asked++;
        if (!isSo) {
            wrong++;
            System.out.println("does not hold: " + claim);
        }
    }

    /** To be called last: ends the program with exit code 1 when an answer was wrong, or none was asked for. */
    void end() {
        System.out.println(asked + " answers, " + wrong + " not as due");
        if (wrong != 0 || asked == 0) {
            System.exit(1);
        }
    }
}
