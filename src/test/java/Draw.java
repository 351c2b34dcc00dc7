/** Draws numbers, the same ones each time, so that a failure comes back. */
final class Draw {
    private long state;

    Draw(long seed) {
        state = seed;
    }

    int below(int bound) {
        state = state * 6364136223846793005L + 1442695040888963407L;
        return (int) ((state >>> 33) % bound);
    }

    int oneOf(int[] numbers) {
        return numbers[below(numbers.length)];
    }

    /** One chance in so many. */
    boolean rarely(int chances) {
        return below(chances) == 0;
    }

    int anyInt() {
        return below(1 << 16) << 16 | below(1 << 16);
    }
}
