/** Numbers that look thrown, the same ones in every run. */
final class Dice {
    private long seed;

    Dice(long seed) {
        this.seed = seed * 0x9E3779B97F4A7C15L + 0x632BE59BD9B4E019L;
    }

    int below(int bound) {
        seed = seed * 6364136223846793005L + 1442695040888963407L;
        return (int) Long.remainderUnsigned(seed >>> 20, bound);
    }

    int between(int lowest, int highest) {
        return lowest + below(highest - lowest + 1);
    }

    boolean isOneIn(int many) {
        return below(many) == 0;
    }

    int oneOf(int... choices) {
        return choices[below(choices.length)];
    }
}
