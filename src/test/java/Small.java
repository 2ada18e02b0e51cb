/**
 * A NET that can be followed by hand: "3,01,12" with WIDTH 8, DRAWN 1, SEED 1, so every MARK is one bit.
 * LINKS 0 to 3 (0-1, 1-0, 1-2, 2-1) have the bits 6 6 1 3, then 4 6 5 7, then 1 7 1 6 in the three
 * VARIANTS, BUNDLES 0 to 3 have 3 3 2 3, then 4 4 1 7, then 6 2 7 7.
 */
final class Small {
    private Small() {
    }

    static FoldedWays net() {
        return withSeed(1);
    }

    /** With another SEED, the MARKS are others. */
    static FoldedWays withSeed(int seed) {
        return Check.withNet("3,01,12", 8, 1, seed);
    }

    /** What spread() tells for 0 and on. */
    static void spread(FoldedWays x, int from, int nodes, int variant, boolean isBound, int... want) {
        for (int what = 0; what < want.length; what++) {
            Check.due("spread(" + from + ", " + nodes + ", " + variant + ", " + isBound + ", " + what + ")",
                    x.spread(from, nodes, variant, isBound, what), want[what]);
        }
    }
}
