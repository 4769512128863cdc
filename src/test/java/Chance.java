/** A row of numbers that look random and are the same in every run. */
final class Chance {
    private long state;

    Chance(long seed) {
        state = seed * 0x9E3779B97F4A7C15L + 12345;
    }

    /** From 0 to bound - 1. */
    int below(int bound) {
        state = state * 6364136223846793005L + 1442695040888963407L;
        return (int) ((state >>> 33) % bound);
    }

    int between(int low, int high) {
        return low + below(high - low + 1);
    }

    boolean oneIn(int times) {
        return below(times) == 0;
    }

    int oneOf(int... numbers) {
        return numbers[below(numbers.length)];
    }
}
