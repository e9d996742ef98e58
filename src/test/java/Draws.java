/** The document's DRAWS, told once more with longs. */
final class Draws {
    private long z;

    Draws(int seed) {
        z = seed;
    }

    int below(int n) {
        z = (z * 1664525L + 1013904223L) & 0xffffffffL;
        return (int) ((z & 0x7fffffffL) / 256 % n);
    }

    /** A seed, the from-th or a later one, whose first DRAW below 100 is this. */
    static int seedOf(int draw, int from) {
        int seed = from;
        while (new Draws(seed).below(100) != draw) {
            seed++;
        }
        return seed;
    }
}
