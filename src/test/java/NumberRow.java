/** A fixed row of mixed numbers, so that every run of the tests is the same. */
final class NumberRow {
    private long at = 20261115L;

    /** A number from 0 to bound - 1. */
    int below(int bound) {
        step();
        return (int) ((at >>> 33) % bound);
    }

    /** Any int at all. */
    int any() {
        step();
        return (int) (at >>> 32);
    }

    private void step() {
        at = at * 6364136223846793005L + 1442695040888963407L;
    }
}
