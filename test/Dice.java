/** Numbers that look drawn, the same ones each time. */
final class Dice {
    private long x;

    Dice(long seed) {
        x = seed * 0x9E3779B97F4A7C15L + 1;
    }

    /** 0 .. n - 1. */
    int below(int n) {
        x = x * 6364136223846793005L + 1442695040888963407L;
        return (int) ((x >>> 33) % n);
    }

    /** From a to b. */
    int from(int a, int b) {
        return a + below(b - a + 1);
    }

    boolean once(int in) {
        return below(in) == 0;
    }
}
