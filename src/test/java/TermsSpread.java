/** MATCHES, SPREAD, PASSAGE, LOOP, ASTRAY, STEP. */
final class TermsSpread {
    private static final int PASSAGES = 1;
    private static final int STEPS = 4;
    private static final int REACHED = 5;
    private static final int MATCHING_ASIDE = 8;

    private TermsSpread() {
    }

    @Holds("A LINK MATCHES some bits in a VARIANT, if all of its MARK are among them")
    static void notWithOneBitOfTwo() {
        // LINKS 0 to 3 have 0 4, 4 5, 2 7, 5: of the bits of LINK 1 one is among those of LINK 0
        FoldedWays x = Check.withNet("3,01,12", 8, 2, 0);
        Check.due("FOLD", x.fold(0, 2, 0, false), 1 | 16);
        Check.due("LINK 1", x.mark(1, 0), 16 | 32);
        Small.spread(x, 0, 2, 0, false, 2, 1, 0, 0, 2, 3, 1, 16, 0);
    }

    @Holds("A LINK MATCHES some bits in a VARIANT, if all of its MARK are among them")
    static void withFewerBitsThanTheFoldHas() {
        // LINKS 0 to 3 have 0 1, 0, 3 4, 1 4
        FoldedWays x = Check.withNet("3,01,12", 8, 2, 51);
        Check.due("FOLD", x.fold(0, 2, 0, false), 1 | 2);
        Check.due("LINK 1", x.mark(1, 0), 1);
        Small.spread(x, 0, 2, 0, false, 2, 2, 1, 1, 2, 3, 1, 16, 1);
    }

    @Holds("or all of the MARK of any BUNDLE that is there and has it.")
    static void byABundleThatHasIt() {
        // in VARIANT 1 LINK 0 and BUNDLE 0 have bit 4, LINK 2 has 5
        FoldedWays x = Small.net();
        x.bind(0, 0, 4);
        Small.spread(x, 0, 2, 1, false, 1, 2, 1, 0, 3, 7, 1, 8, 1);
        Small.spread(x, 0, 2, 1, true, 1, 2, 1, 0, 3, 7, 1, 8, 1);
    }

    @Holds("or all of the MARK of any BUNDLE that is there and has it.")
    static void byAnyBundle() {
        // BUNDLE 1 has bit 4 in VARIANT 1, too; BUNDLE 2 has not
        FoldedWays second = Small.net();
        second.bind(1, 0, 4);
        Check.due("BUNDLE 1", second.spread(0, 2, 1, false, MATCHING_ASIDE), 1);
        FoldedWays third = Small.net();
        third.bind(2, 0, 4);
        Check.due("BUNDLE 2", third.spread(0, 2, 1, false, MATCHING_ASIDE), 0);
        // LINK 0 has the bits 3 6, as has BUNDLE 3; LINK 2 has 1 2
        FoldedWays last = Check.withNet("3,01,12", 8, 2, 6);
        last.bind(3, 0, 4);
        Check.due("BUNDLE 3", last.spread(0, 2, 0, false, MATCHING_ASIDE), 1);
    }

    @Holds("or all of the MARK of any BUNDLE that is there and has it.")
    static void notByABundleThatHasItNot() {
        FoldedWays x = Small.net();
        x.bind(0, 0, 2);
        Check.due("BUNDLE 0 has LINK 0 alone", x.spread(0, 2, 1, false, MATCHING_ASIDE), 0);
    }

    @Holds("or all of the MARK of any BUNDLE that is there and has it.")
    static void notByABundleThatIsNotThere() {
        FoldedWays x = Small.net();
        Check.due("never", x.spread(0, 2, 1, false, MATCHING_ASIDE), 0);
        x.bind(0, 0, 4);
        x.loosen(0);
        Check.due("no more", x.spread(0, 2, 1, false, MATCHING_ASIDE), 0);
    }

    @Holds("or all of the MARK of any BUNDLE that is there and has it.")
    static void notByOneBitOfTwoOfABundle() {
        // LINK 0 has the bits 0 4, BUNDLE 1 has 4 5, LINK 2 has 2 7
        FoldedWays x = Check.withNet("3,01,12", 8, 2, 0);
        x.bind(1, 0, 4);
        Check.due("BUNDLE 1", x.bound(1, 0), 16 | 32);
        Check.due("LINK 2", x.spread(0, 2, 0, false, MATCHING_ASIDE), 0);
    }

    @Holds("SPREAD of bits in a VARIANT from a NODE: it is REACHED in STEP 0")
    static void theNodeItself() {
        FoldedWays x = Small.net();
        for (int from = 0; from < 3; from++) {
            Check.due("of no bits from " + from, x.spread(from, 0, 0, false, REACHED), 1 << from);
            Check.due("to itself from " + from, x.spread(from, 1 << from, 0, true, REACHED), 1 << from);
        }
    }

    @Holds("in each STEP the NODES that were REACHED in the STEP ahead send on all LINKS from them that MATCH: each is a "
            + "PASSAGE")
    static void eachLinkThatMatches() {
        // LINKS 0, 2, 4, 6 MATCH alone: 0-1 and 0-2, then 1-3 and 2-3
        FoldedWays x = Check.withNet("4,01,02,13,23", 8, 1, 111);
        Check.due("four PASSAGES", x.spread(0, 8, 0, false, PASSAGES), 4);
        // LINKS 0 and 4 MATCH alone
        FoldedWays two = Check.withNet("4,01,02,13,23", 8, 1, 2);
        Small.spread(two, 0, 8, 0, false, 2, 2, 0, 0, 3, 11, 1, 4, 0);
    }

    @Holds("in each STEP the NODES that were REACHED in the STEP ahead send on all LINKS from them that MATCH: each is a "
            + "PASSAGE")
    static void notALinkWhoseNodeIsNotReached() {
        // in VARIANT 2 LINK 0 MATCHES, too, but from 1 nothing comes to 0
        FoldedWays x = Small.net();
        Small.spread(x, 1, 4, 2, false, 1, 1, 0, 0, 2, 6, 1, 8, 1);
    }

    @Holds("the NODE at its end is REACHED, if it was not so far, else that is a LOOP.")
    static void backToTheFirstNodeIsALoop() {
        Small.spread(Small.net(), 0, 2, 0, false, 1, 2, 1, 1, 2, 3);
    }

    @Holds("the NODE at its end is REACHED, if it was not so far, else that is a LOOP.")
    static void twiceInOneStepIsALoop() {
        // 1-3 and 2-3 go in one STEP: whichever is the second one is a LOOP
        FoldedWays x = Check.withNet("4,01,02,13,23", 8, 1, 111);
        Small.spread(x, 0, 8, 0, false, 2, 4, 2, 1, 3, 15, 1, 4, 2);
    }

    @Holds("(So each NODE sends once.)")
    static void eachNodeSendsOnceWhereAllMatch() {
        // all six LINKS of a triangle MATCH: six PASSAGES, four of them LOOPS and not in the TREE
        FoldedWays x = Check.withNet("3,01,12,20", 8, 1, 120);
        Small.spread(x, 0, 6, 0, false, 2, 6, 4, 4, 2, 7, 1, 4, 4);
        FoldedWays line = Check.withNet("6,01,12,23,34,45", 8, 4, 2);
        Check.due("all bits", line.fold(0, 63, 0, false), 255);
        Small.spread(line, 0, 63, 0, false, 8, 10, 5, 5, 6, 63, 1, 1, 5);
    }

    @Holds("A PASSAGE is ASTRAY, if its LINK is not in the TREE.")
    static void someNoneAndAll() {
        FoldedWays x = Small.net();
        Small.spread(x, 0, 4, 1, false, 2, 2, 0);
        Small.spread(x, 0, 2, 2, false, 1, 2, 1);
        Small.spread(x, 0, 0, 2, false, 0, 0, 0);
    }

    @Holds("A PASSAGE is ASTRAY, if its LINK is not in the TREE.")
    static void astrayAndLoopAreNotTheSame() {
        // to 1 in VARIANT 2: 1-2 is ASTRAY, no LOOP
        Small.spread(Small.net(), 0, 2, 2, false, 1, 2, 1, 0, 3, 7);
    }

    @Holds("It ends with the first STEP in which no NODE is REACHED anew (it counts).")
    static void oneStepWhereNothingIsSent() {
        FoldedWays x = Small.net();
        Small.spread(x, 0, 0, 0, false, 0, 0, 0, 0, 1, 1, 0, 1, 0);
        Small.spread(x, 1, 2, 0, true, 0, 0, 0, 0, 1, 2, 0, 1, 0);
    }

    @Holds("It ends with the first STEP in which no NODE is REACHED anew (it counts).")
    static void theLastStepMayHaveLoopsAlone() {
        Small.spread(Small.net(), 0, 2, 0, false, 1, 2, 1, 1, 2);
    }

    @Holds("It ends with the first STEP in which no NODE is REACHED anew (it counts).")
    static void theMostSteps() {
        // on a line a NODE is REACHED only from the one ahead of it, whatever else MATCHES
        FoldedWays x = Check.withNet("6,01,12,23,34,45");
        for (int variant = 0; variant < 3; variant++) {
            Check.due("from end to end", x.spread(0, 32, variant, false, STEPS), 6);
            Check.due("all are REACHED", x.spread(0, 32, variant, false, REACHED), 63);
            Check.due("back", x.spread(5, 1, variant, false, STEPS), 6);
        }
    }
}
