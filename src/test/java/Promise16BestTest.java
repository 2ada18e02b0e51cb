/** Which VARIANT is BEST is told by TermsBest; here, what best() tells and refuses. */
@Section("Promise 16: best")
public final class Promise16BestTest {
    public static void main(String[] args) {
        Sentences.run(Promise16BestTest.class);
    }

    @Holds("BEST.")
    static void eachVariantCanBeIt() {
        FoldedWays x = Small.net();
        Still still = new Still(x);
        still.due("best(0, 0, false)", x.best(0, 0, false), 0);
        still.due("best(0, 2, false)", x.best(0, 2, false), 1);
        still.due("best(0, 4, false)", x.best(0, 4, false), 2);
    }

    @Holds("BEST.")
    static void boundOrNot() {
        FoldedWays x = Small.net();
        x.bind(0, 0, 4);
        Check.due("best(0, 4, false)", x.best(0, 4, false), 2);
        Check.due("best(0, 4, true)", x.best(0, 4, true), 1);
    }

    @Holds("UNKNOWN: from")
    static void fromTooSmallOrTooLarge() {
        FoldedWays x = Small.net();
        for (int from : Check.outside(0, 2)) {
            new Still(x).due("best(" + from + ", 1, false)", x.best(from, 1, false), FoldedWays.UNKNOWN);
            Check.due("best(" + from + ", 0, true)", x.best(from, 0, true), FoldedWays.UNKNOWN);
        }
        Check.due("without a NET", new FoldedWays().best(0, 0, false), FoldedWays.UNKNOWN);
    }

    @Holds("OUTSIDE: nodes.")
    static void nodesTooSmallOrTooLarge() {
        FoldedWays x = Small.net();
        for (int nodes : Check.outside(0, 7)) {
            new Still(x).due("best(0, " + nodes + ", false)", x.best(0, nodes, false), FoldedWays.OUTSIDE);
            Check.due("best(0, " + nodes + ", true)", x.best(0, nodes, true), FoldedWays.OUTSIDE);
        }
    }

    @Holds({"UNKNOWN: from", "OUTSIDE: nodes."})
    static void unknownIsToldAheadOfOutside() {
        FoldedWays x = Small.net();
        for (int nodes : Check.outside(0, 7)) {
            Check.due("best(3, " + nodes + ", false)", x.best(3, nodes, false), FoldedWays.UNKNOWN);
            Check.due("best(-1, " + nodes + ", true)", x.best(-1, nodes, true), FoldedWays.UNKNOWN);
        }
    }
}
