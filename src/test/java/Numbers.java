/** A plain generator of its own for mixed calls: the same numbers on every machine and every day. */
final class Numbers {
    private long seed;

    Numbers(long seed) {
        this.seed = seed;
    }

    int below(int bound) {
        return (int) (next() % bound);
    }

    int any() {
        return (int) (next() << 1 ^ next() >>> 7);
    }

    private long next() {
        seed = seed * 6364136223846793005L + 1442695040888963407L;
        return seed >>> 33;
    }
}
