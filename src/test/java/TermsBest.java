/** BEST. In the comments: how many PASSAGES are ASTRAY and how many bits FOLD has, of each VARIANT. */
final class TermsBest {
    private TermsBest() {
    }

    private static void best(int seed, int want, int... astrayAndBits) {
        FoldedWays x = Small.withSeed(seed);
        for (int variant = 0; variant < 3; variant++) {
            Check.due("ASTRAY in " + variant, x.spread(0, 4, variant, false, 2), astrayAndBits[2 * variant]);
            Check.due("bits in " + variant, x.spread(0, 4, variant, false, 0), astrayAndBits[2 * variant + 1]);
        }
        Check.due("best(0, 4) by SEED " + seed, x.best(0, 4, false), want);
    }

    @Holds("BEST of a NODE and a set, bound or not: the VARIANT in which fewest PASSAGES are ASTRAY in SPREAD of FOLD of "
            + "the TREE from that NODE")
    static void fewestAstrayThoughMoreBits() {
        best(3844, 2, 1, 1, 1, 1, 0, 2);
    }

    /** Of each VARIANT: ASTRAY, LOOPS, how many LINKS that are not in the TREE MATCH, how many bits. */
    private static void bestInRing(int seed, int from, int nodes, int want, int... facts) {
        FoldedWays x = Ring.withSeed(seed);
        int[] what = {2, 3, 8, 0};
        for (int i = 0; i < facts.length; i++) {
            int variant = i / what.length;
            Check.due("spread for " + what[i % what.length] + " in " + variant,
                    x.spread(from, nodes, variant, false, what[i % what.length]), facts[i]);
        }
        Check.due("best(" + from + ", " + nodes + ") by SEED " + seed, x.best(from, nodes, false), want);
    }

    @Holds("BEST of a NODE and a set, bound or not: the VARIANT in which fewest PASSAGES are ASTRAY in SPREAD of FOLD of "
            + "the TREE from that NODE")
    static void fewestAstrayNotFewestLoopsOrLinksThatMatch() {
        bestInRing(17, 1, 4, 1, 2, 1, 2, 2, 1, 1, 2, 2, 1, 0, 1, 2);
    }

    @Holds("of like ones that with fewest bits in FOLD")
    static void likeOnesAreAlikeInAstrayAlone() {
        // one is ASTRAY in each, but there is no LOOP
        bestInRing(2, 1, 9, 1, 1, 0, 1, 2, 1, 0, 1, 1, 1, 0, 1, 2);
        // none is ASTRAY in any, but a LINK MATCHES beside the TREE
        bestInRing(4, 0, 8, 1, 0, 0, 1, 2, 0, 0, 1, 1, 0, 0, 0, 1);
    }

    @Holds("BEST of a NODE and a set, bound or not: the VARIANT in which fewest PASSAGES are ASTRAY in SPREAD of FOLD of "
            + "the TREE from that NODE")
    static void boundOrNot() {
        FoldedWays x = Small.net();
        x.bind(0, 0, 4);
        Check.due("not bound: 1 2, 0 2, 0 1", x.best(0, 4, false), 2);
        Check.due("bound: 1 1, 0 1, 1 1", x.best(0, 4, true), 1);
    }

    @Holds("of like ones that with fewest bits in FOLD")
    static void ofLikeOnesFewestBits() {
        best(1, 2, 1, 2, 0, 2, 0, 1);
        best(129, 1, 0, 2, 0, 1, 0, 1);
        best(64, 0, 0, 1, 0, 2, 0, 1);
    }

    @Holds("then the least.")
    static void allThreeAlike() {
        best(4, 0, 0, 2, 0, 2, 0, 2);
        FoldedWays x = Small.net();
        Check.due("of an empty TREE", x.best(0, 0, false), 0);
        Check.due("of an empty TREE, bound", x.best(0, 1, true), 0);
    }

    @Holds("then the least.")
    static void allThreeAlikeWithAllBits() {
        // every LINK MATCHES in each VARIANT
        FoldedWays x = Check.withNet("6,01,12,23,34,45", 8, 4, 14);
        for (int variant = 0; variant < 3; variant++) {
            Check.due("all bits in " + variant, x.fold(0, 63, variant, false), 255);
            Check.due("ASTRAY in " + variant, x.spread(0, 63, variant, false, 2), 5);
        }
        Check.due("best(0, 63)", x.best(0, 63, false), 0);
    }

    @Holds("then the least.")
    static void theLastTwoAlike() {
        best(12, 1, 2, 2, 1, 2, 1, 2);
        best(17, 1, 1, 2, 0, 1, 0, 1);
    }

    @Holds("then the least.")
    static void theFirstAndTheLastAlike() {
        best(5, 0, 0, 2, 1, 2, 0, 2);
        best(48, 0, 0, 2, 2, 2, 0, 2);
    }
}
