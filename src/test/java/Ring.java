/**
 * A NET in which PASSAGES, ASTRAY and LOOPS of what is sent from 0 to 3 are unlike: "4,01,02,13,23" with
 * WIDTH 8, DRAWN 1, SEED 13. In VARIANT 1 the LINKS 0 (0-1), 2 (0-2), 4 (1-3), 7 (3-2) have the bit 1,
 * the others have not: 0-1 and 0-2 go first, then 1-3, then 3-2, where 2 was REACHED; 0-2 and 3-2 are
 * ASTRAY. In VARIANTS 0 and 2 as many are ASTRAY, but FOLD has two bits.
 */
final class Ring {
    static final int BEST = 1;
    static final int PASSAGES = 4;
    static final int ASTRAY = 2;
    static final int LOOPS = 1;

    private Ring() {
    }

    static FoldedWays net() {
        return Check.withNet("4,01,02,13,23", 8, 1, 13);
    }
}
