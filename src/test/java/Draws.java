/** DRAWS as the document tells them, and SEEDS that lead to wanted ones. */
final class Draws {
    private Draws() {
    }

    /** The SEED behind one DRAW more. */
    static int next(int seed) {
        return 1103515245 * seed + 12345;
    }

    /** The DRAW by which the SEED came to be this one. */
    static int of(int seed) {
        return seed >> 16 & 0x7fff;
    }

    /** The least SEED by which the next DRAWS leave such rests: each a divisor, and its rest. */
    static int seedFor(int... divisorsAndRests) {
        for (int first = 1; first < 10_000_000; first++) {
            int seed = first;
            boolean fits = true;
            for (int i = 0; i < divisorsAndRests.length && fits; i += 2) {
                seed = next(seed);
                fits = of(seed) % divisorsAndRests[i] == divisorsAndRests[i + 1];
            }
            if (fits) {
                return first;
            }
        }
        throw new IllegalStateException("there is no such seed");
    }
}
