/** A fixed sequence of numbers that looks like chance, so that every run of a test makes the same calls. */
final class FixedNumbers {
    private long state;

    FixedNumbers(long seed) {
        state = seed;
    }

    int below(int bound) {
        state = state * 6364136223846793005L + 1442695040888963407L;
        return (int) ((state >>> 33) % bound);
    }

    int between(int least, int greatest) {
        return least + below(greatest - least + 1);
    }
}
