/** Which bits a FOLD has is told by TermsBundles; here, what fold() tells and refuses. */
@Section("Promise 14: fold")
public final class Promise14FoldTest {
    public static void main(String[] args) {
        Sentences.run(Promise14FoldTest.class);
    }

    @Holds("FOLD of the TREE, as bits.")
    static void inEachVariant() {
        FoldedWays x = Small.net();
        long[][] want = {{64, 66, 0, 2, 72}, {16, 48, 0, 32, 192}, {2, 2, 0, 2, 192}};
        for (int variant = 0; variant < 3; variant++) {
            for (boolean isBound : new boolean[] {false, true}) {
                String at = " in VARIANT " + variant + ", bound: " + isBound;
                Check.due("fold(0, 2)" + at, x.fold(0, 2, variant, isBound), want[variant][0]);
                Check.due("fold(0, 4)" + at, x.fold(0, 4, variant, isBound), want[variant][1]);
                Check.due("fold(0, 1)" + at, x.fold(0, 1, variant, isBound), want[variant][2]);
                Check.due("fold(1, 4)" + at, x.fold(1, 4, variant, isBound), want[variant][3]);
                new Still(x).due("fold(2, 7)" + at, x.fold(2, 7, variant, isBound), want[variant][4]);
            }
        }
    }

    @Holds("FOLD of the TREE, as bits.")
    static void boundOrNot() {
        FoldedWays x = Small.net();
        x.bind(0, 0, 4);
        long[][] want = {{66, 8}, {48, 16}, {2, 64}};
        for (int variant = 0; variant < 3; variant++) {
            Check.due("not bound in " + variant, x.fold(0, 4, variant, false), want[variant][0]);
            Check.due("bound in " + variant, x.fold(0, 4, variant, true), want[variant][1]);
        }
    }

    @Holds("FOLD of the TREE, as bits.")
    static void theGreatestBit() {
        FoldedWays x = Check.withNet("2,01", 40, 1, 29);
        Check.due("bit 39", x.fold(0, 2, 0, false), 1L << 39);
    }

    @Holds("UNKNOWN: from")
    static void fromTooSmallOrTooLarge() {
        FoldedWays x = Small.net();
        for (int from : Check.outside(0, 2)) {
            new Still(x).due("fold(" + from + ", 1, 0, false)", x.fold(from, 1, 0, false), FoldedWays.UNKNOWN);
            Check.due("fold(" + from + ", 0, 2, true)", x.fold(from, 0, 2, true), FoldedWays.UNKNOWN);
        }
        Check.due("without a NET", new FoldedWays().fold(0, 0, 0, false), FoldedWays.UNKNOWN);
    }

    @Holds("OUTSIDE: nodes, variant.")
    static void nodesTooSmallOrTooLarge() {
        FoldedWays x = Small.net();
        for (int nodes : Check.outside(0, 7)) {
            new Still(x).due("fold(0, " + nodes + ", 0, false)", x.fold(0, nodes, 0, false), FoldedWays.OUTSIDE);
            Check.due("fold(0, " + nodes + ", 2, true)", x.fold(0, nodes, 2, true), FoldedWays.OUTSIDE);
        }
    }

    @Holds("OUTSIDE: nodes, variant.")
    static void variantTooSmallOrTooLarge() {
        FoldedWays x = Small.net();
        for (int variant : Check.outside(0, 2)) {
            new Still(x).due("fold(0, 7, " + variant + ", false)", x.fold(0, 7, variant, false), FoldedWays.OUTSIDE);
            Check.due("fold(0, 0, " + variant + ", true)", x.fold(0, 0, variant, true), FoldedWays.OUTSIDE);
        }
    }

    @Holds({"UNKNOWN: from", "OUTSIDE: nodes, variant."})
    static void unknownIsToldAheadOfOutside() {
        FoldedWays x = Small.net();
        int[] no = {-1, 3};
        for (int from : no) {
            Check.due("from, nodes", x.fold(from, 8, 0, false), FoldedWays.UNKNOWN);
            Check.due("from, variant", x.fold(from, 1, 3, true), FoldedWays.UNKNOWN);
            Check.due("from, nodes, variant", x.fold(from, -1, -1, true), FoldedWays.UNKNOWN);
        }
        Check.due("nodes, variant", x.fold(0, 8, 3, true), FoldedWays.OUTSIDE);
    }
}
