/** How a SPREAD goes is told by TermsSpread; here, what spread() tells of it and refuses. */
@Section("Promise 15: spread")
public final class Promise15SpreadTest {
    public static void main(String[] args) {
        Sentences.run(Promise15SpreadTest.class);
    }

    /** The same fact of five SPREADS in the small NET. */
    private static void facts(int what, int... want) {
        FoldedWays x = Small.net();
        Still still = new Still(x);
        still.due("to 1 in 0, " + what, x.spread(0, 2, 0, false, what), want[0]);
        still.due("to 1 in 2, " + what, x.spread(0, 2, 2, false, what), want[1]);
        still.due("to 2 in 0, " + what, x.spread(0, 4, 0, false, what), want[2]);
        still.due("to none, " + what, x.spread(0, 0, 0, false, what), want[3]);
        still.due("from 1 to 2 in 2, " + what, x.spread(1, 4, 2, false, what), want[4]);
    }

    @Holds("Of FOLD of the TREE, and its SPREAD from that NODE: what = 0 how many bits")
    static void howManyBits() {
        facts(0, 1, 1, 2, 0, 1);
        FoldedWays x = Check.withNet("6,01,12,23,34,45", 8, 4, 2);
        Check.due("all of them", x.spread(0, 63, 0, false, 0), 8);
    }

    @Holds("1 PASSAGES")
    static void passages() {
        facts(1, 2, 2, 3, 0, 1);
    }

    @Holds("2 how many of these are ASTRAY")
    static void astray() {
        facts(2, 1, 1, 1, 0, 0);
    }

    @Holds("3 LOOPS")
    static void loops() {
        facts(3, 1, 0, 1, 0, 0);
    }

    @Holds("4 STEPS (the last one, too; STEP 0 not)")
    static void steps() {
        facts(4, 2, 3, 3, 1, 2);
    }

    @Holds("5 NODES that are REACHED, as bits")
    static void reached() {
        facts(5, 3, 7, 7, 1, 6);
    }

    @Holds("6 and 7 ODDS (above, below)")
    static void odds() {
        facts(6, 1, 1, 1, 0, 1);
        facts(7, 8, 8, 4, 1, 8);
    }

    @Holds("8 how many LINKS that are not in the TREE MATCH.")
    static void matchingAside() {
        // the last: LINK 0 MATCHES, but nothing comes to its NODE, so there is no PASSAGE
        facts(8, 1, 1, 1, 0, 1);
    }

    @Holds("8 how many LINKS that are not in the TREE MATCH.")
    static void allLinksMatchOrNoneBesideTheTree() {
        FoldedWays all = Check.withNet("3,01,12,20", 8, 1, 120);
        Check.due("six MATCH, two are in the TREE", all.spread(0, 6, 0, false, 8), 4);
        Check.due("none beside it", Small.net().spread(0, 4, 1, false, 8), 0);
    }

    @Holds("Of FOLD of the TREE, and its SPREAD from that NODE: what = 0 how many bits")
    static void boundOrNot() {
        FoldedWays x = Small.net();
        x.bind(0, 0, 4);
        Small.spread(x, 0, 4, 0, false, 2, 3, 1, 1, 3, 7, 1, 4, 1);
        Small.spread(x, 0, 4, 0, true, 1, 3, 1, 1, 3, 7, 1, 8, 1);
        Small.spread(x, 0, 4, 1, true, 1, 2, 0, 0, 3, 7, 1, 8, 0);
    }

    @Holds("UNKNOWN: from")
    static void fromTooSmallOrTooLarge() {
        FoldedWays x = Small.net();
        for (int from : Check.outside(0, 2)) {
            for (int what = 0; what < 9; what++) {
                Check.due("spread of " + from, x.spread(from, 1, 0, false, what), FoldedWays.UNKNOWN);
            }
            new Still(x).due("spread of " + from, x.spread(from, 0, 2, true, 5), FoldedWays.UNKNOWN);
        }
        Check.due("without a NET", new FoldedWays().spread(0, 0, 0, false, 0), FoldedWays.UNKNOWN);
    }

    @Holds("OUTSIDE: nodes, variant, what.")
    static void nodesTooSmallOrTooLarge() {
        FoldedWays x = Small.net();
        for (int nodes : Check.outside(0, 7)) {
            new Still(x).due("spread to " + nodes, x.spread(0, nodes, 0, true, 0), FoldedWays.OUTSIDE);
        }
    }

    @Holds("OUTSIDE: nodes, variant, what.")
    static void variantTooSmallOrTooLarge() {
        FoldedWays x = Small.net();
        for (int variant : Check.outside(0, 2)) {
            new Still(x).due("spread in " + variant, x.spread(0, 7, variant, false, 0), FoldedWays.OUTSIDE);
        }
    }

    @Holds("OUTSIDE: nodes, variant, what.")
    static void whatTooSmallOrTooLarge() {
        FoldedWays x = Small.net();
        for (int what : Check.outside(0, 8)) {
            new Still(x).due("spread, " + what, x.spread(0, 7, 0, false, what), FoldedWays.OUTSIDE);
        }
    }

    @Holds({"UNKNOWN: from", "OUTSIDE: nodes, variant, what."})
    static void unknownIsToldAheadOfOutside() {
        FoldedWays x = Small.net();
        int[] no = {-1, 3};
        for (int from : no) {
            Check.due("from, nodes", x.spread(from, 8, 0, false, 0), FoldedWays.UNKNOWN);
            Check.due("from, variant", x.spread(from, 1, 3, false, 0), FoldedWays.UNKNOWN);
            Check.due("from, what", x.spread(from, 1, 0, false, 9), FoldedWays.UNKNOWN);
            Check.due("all", x.spread(from, -1, -1, true, -1), FoldedWays.UNKNOWN);
        }
        Check.due("nodes, variant, what", x.spread(0, 8, 3, true, 9), FoldedWays.OUTSIDE);
    }
}
