/** BUNDLE, FOLD. */
final class TermsBundles {
    private TermsBundles() {
    }

    private static void fold(FoldedWays x, int nodes, boolean isBound, long... want) {
        for (int variant = 0; variant < 3; variant++) {
            Check.due("fold(0, " + nodes + ", " + variant + ", " + isBound + ")", x.fold(0, nodes, variant, isBound),
                    want[variant]);
        }
    }

    @Holds("A BUNDLE is a set of LINKS (one at least) that lies at one of four places.")
    static void oneLinkAtLeast() {
        FoldedWays x = Small.net();
        Check.due("no LINK", x.bind(0, 0, 1), FoldedWays.STATE);
        Check.due("one LINK", x.bind(0, 0, 2), 1);
        Check.due("its LINKS", x.loosen(0), 1);
    }

    @Holds("A BUNDLE is a set of LINKS (one at least) that lies at one of four places.")
    static void fourPlaces() {
        FoldedWays x = Small.net();
        Check.due("place -1", x.bind(-1, 0, 4), FoldedWays.UNKNOWN);
        for (int place = 0; place < 4; place++) {
            Check.due("place " + place, x.bind(place, 0, 4), 2);
        }
        Check.due("place 4", x.bind(4, 0, 4), FoldedWays.UNKNOWN);
        Check.due("BUNDLES", x.count(6), 4);
    }

    @Holds("FOLD of a TREE in a VARIANT, bound or not: if it is bound, each BUNDLE all of whose LINKS are in the TREE "
            + "gives its MARK in place of these LINKS")
    static void boundOrNot() {
        FoldedWays x = Small.net();
        x.bind(0, 0, 4);
        fold(x, 4, true, 8, 16, 64);
        fold(x, 4, false, 66, 48, 2);
    }

    @Holds("FOLD of a TREE in a VARIANT, bound or not: if it is bound, each BUNDLE all of whose LINKS are in the TREE "
            + "gives its MARK in place of these LINKS")
    static void notWhereALinkOfItIsNotInTheTree() {
        FoldedWays x = Small.net();
        x.bind(0, 0, 4);
        fold(x, 2, true, 64, 16, 2);
        FoldedWays back = Small.net();
        back.bind(0, 2, 1);
        fold(back, 4, true, 66, 48, 2);
    }

    @Holds("FOLD of a TREE in a VARIANT, bound or not: if it is bound, each BUNDLE all of whose LINKS are in the TREE "
            + "gives its MARK in place of these LINKS")
    static void eachOfSeveralAlsoWhereTheyShareALink() {
        FoldedWays x = Small.net();
        x.bind(0, 0, 4);
        x.bind(1, 0, 2);
        fold(x, 4, true, 8, 16, 64 | 4);
        fold(x, 2, true, 8, 16, 4);
    }

    @Holds("FOLD of a TREE in a VARIANT, bound or not: if it is bound, each BUNDLE all of whose LINKS are in the TREE "
            + "gives its MARK in place of these LINKS")
    static void allFourPlaces() {
        FoldedWays x = Small.net();
        x.bind(2, 0, 4);
        fold(x, 4, true, 4, 2, 128);
        x.bind(3, 0, 4);
        fold(x, 4, true, 4 | 8, 2 | 128, 128);
        x.bind(0, 0, 4);
        x.bind(1, 0, 4);
        fold(x, 4, true, 4 | 8, 2 | 128 | 16, 128 | 64 | 4);
    }

    @Holds("FOLD of a TREE in a VARIANT, bound or not: if it is bound, each BUNDLE all of whose LINKS are in the TREE "
            + "gives its MARK in place of these LINKS")
    static void notOneThatIsGone() {
        FoldedWays x = Small.net();
        x.bind(0, 0, 4);
        x.loosen(0);
        fold(x, 4, true, 66, 48, 2);
    }

    @Holds("all LINKS that are not replaced so give theirs")
    static void aLinkBesideTheBundle() {
        FoldedWays x = Small.net();
        x.bind(1, 0, 2);
        fold(x, 4, true, 8 | 2, 16 | 32, 4 | 2);
    }

    @Holds("all these bits together (0: the TREE is empty).")
    static void allBitsTogether() {
        FoldedWays x = Small.net();
        // in VARIANT 2 both LINKS have the same bit
        fold(x, 4, false, 64 | 2, 16 | 32, 2);
        fold(x, 2, false, 64, 16, 2);
    }

    @Holds("all these bits together (0: the TREE is empty).")
    static void ofAnEmptyTree() {
        FoldedWays x = Small.net();
        x.bind(0, 0, 4);
        fold(x, 0, false, 0, 0, 0);
        fold(x, 0, true, 0, 0, 0);
        fold(x, 1, false, 0, 0, 0);
        fold(x, 1, true, 0, 0, 0);
        FoldedWays parts = Check.withNet("5,01,34");
        fold(parts, 24, true, 0, 0, 0);
    }
}
