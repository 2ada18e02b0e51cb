/** Which LINKS are in a TREE is told by TermsWays; here, what tree() tells and refuses. */
@Section("Promise 10: tree")
public final class Promise10TreeTest {
    public static void main(String[] args) {
        Sentences.run(Promise10TreeTest.class);
    }

    @Holds("TREE, as bits of LINKS.")
    static void bitsOfLinks() {
        FoldedWays x = Check.withNet("5,01,12,30");
        new Still(x).due("tree(0, 2)", x.tree(0, 2), 1);
        Check.due("tree(0, 4)", x.tree(0, 4), 1 | 4);
        Check.due("tree(2, 1)", x.tree(2, 1), 8 | 2);
        Check.due("tree(2, 8)", x.tree(2, 8), 8 | 2 | 32);
        Check.due("tree(3, 4)", x.tree(3, 4), 16 | 1 | 4);
    }

    @Holds("TREE, as bits of LINKS.")
    static void theGreatestLink() {
        Check.due("LINK 15", Check.withNet("6,01,02,03,04,05,12,34,35").tree(5, 8), 1 << 15);
    }

    @Holds("UNKNOWN: from")
    static void fromTooSmallOrTooLarge() {
        FoldedWays x = Check.withNet("5,01,34");
        for (int from : Check.outside(0, 4)) {
            new Still(x).due("tree(" + from + ", 1)", x.tree(from, 1), FoldedWays.UNKNOWN);
            Check.due("tree(" + from + ", 0)", x.tree(from, 0), FoldedWays.UNKNOWN);
        }
        Check.due("without a NET", new FoldedWays().tree(0, 0), FoldedWays.UNKNOWN);
    }

    @Holds("OUTSIDE: nodes (bits of NODES).")
    static void nodesTooSmallOrTooLarge() {
        FoldedWays x = Check.withNet("5,01,34");
        for (int nodes : Check.outside(0, 31)) {
            new Still(x).due("tree(0, " + nodes + ")", x.tree(0, nodes), FoldedWays.OUTSIDE);
        }
        Check.due("tree(0, 31)", x.tree(0, 31), 1);
        Check.due("tree(0, 0)", x.tree(0, 0), 0);
    }

    @Holds("OUTSIDE: nodes (bits of NODES).")
    static void asManyBitsAsTheNetHasNodes() {
        for (int many = 2; many <= 6; many++) {
            FoldedWays x = Check.withNet(many + ",01");
            Check.due("all bits", x.tree(0, (1 << many) - 1), 1);
            Check.due("one bit more alone", x.tree(0, 1 << many), FoldedWays.OUTSIDE);
            Check.due("one bit more and a right one", x.tree(0, 1 << many | 2), FoldedWays.OUTSIDE);
            Check.due("the last bit of all and a right one", x.tree(0, Integer.MIN_VALUE | 2), FoldedWays.OUTSIDE);
        }
    }

    @Holds({"UNKNOWN: from", "OUTSIDE: nodes (bits of NODES)."})
    static void unknownIsToldAheadOfOutside() {
        FoldedWays x = Check.withNet("5,01,34");
        for (int nodes : Check.outside(0, 31)) {
            Check.due("tree(5, " + nodes + ")", x.tree(5, nodes), FoldedWays.UNKNOWN);
            Check.due("tree(-1, " + nodes + ")", x.tree(-1, nodes), FoldedWays.UNKNOWN);
        }
    }
}
