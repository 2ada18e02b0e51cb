/**
 * A NET in which two WAYS go to NODE 3, so that a SPREAD can come to a NODE from two sides:
 * "4,01,02,13,23" with WIDTH 8, DRAWN 1, so every MARK is one bit.
 */
final class Ring {
    private Ring() {
    }

    static FoldedWays withSeed(int seed) {
        return Check.withNet("4,01,02,13,23", 8, 1, seed);
    }

    /**
     * In VARIANT 1, which is BEST from 0 to 3, LINKS 0 (0-1), 2 (0-2), 4 (1-3), 7 (3-2) have the bit 1, the
     * others have not: 0-1 and 0-2 go first, then 1-3, then 3-2, where 2 was REACHED: four PASSAGES, two of
     * them (0-2, 3-2) ASTRAY, one LOOP. In VARIANTS 0 and 2 as many are ASTRAY, but FOLD has two bits.
     */
    static FoldedWays ofFourTwoAndOne() {
        return withSeed(13);
    }
}
