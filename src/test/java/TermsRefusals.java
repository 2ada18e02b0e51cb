/** Refusals: which one, in which order, and that they change nothing. */
final class TermsRefusals {
    private TermsRefusals() {
    }

    /** With all that a refused call could change: a NET, a BUNDLE at place 1, letters, what was sent. */
    private static FoldedWays rich() {
        FoldedWays x = Check.withNet("5,01,12,30", 9, 2, 7);
        x.bind(1, 0, 4);
        x.send(0, 15, true);
        Check.type(x, "4,0");
        return x;
    }

    @Holds("UNKNOWN (a number names nothing)")
    static void unknown() {
        FoldedWays x = rich();
        Still still = new Still(x);
        still.due("a LINK", x.mark(6, 0), FoldedWays.UNKNOWN);
        still.due("a LINK", x.link(-1, 0), FoldedWays.UNKNOWN);
        still.due("a NODE", x.way(5, 0, 0), FoldedWays.UNKNOWN);
        still.due("a NODE", x.way(0, -1, 0), FoldedWays.UNKNOWN);
        still.due("a NODE", x.tree(5, 0), FoldedWays.UNKNOWN);
        still.due("a NODE", x.bind(0, 5, 4), FoldedWays.UNKNOWN);
        still.due("a NODE", x.fold(5, 1, 0, true), FoldedWays.UNKNOWN);
        still.due("a NODE", x.spread(5, 1, 0, true, 0), FoldedWays.UNKNOWN);
        still.due("a NODE", x.best(5, 1, true), FoldedWays.UNKNOWN);
        still.due("a NODE", x.send(5, 1, true), FoldedWays.UNKNOWN);
        still.due("a place", x.bind(4, 0, 4), FoldedWays.UNKNOWN);
        still.due("a place", x.loosen(4), FoldedWays.UNKNOWN);
        still.due("a place", x.bound(-1, 0), FoldedWays.UNKNOWN);
        still.due("no BUNDLE there", x.bound(0, 0), FoldedWays.UNKNOWN);
    }

    @Holds("OUTSIDE (it is not as told)")
    static void outside() {
        FoldedWays x = rich();
        Still still = new Still(x);
        still.due("a code", x.letter(127), FoldedWays.OUTSIDE);
        still.due("what of set()", x.set(3, 9), FoldedWays.OUTSIDE);
        still.due("v of set()", x.set(0, 41), FoldedWays.OUTSIDE);
        still.due("variant of mark()", x.mark(0, 3), FoldedWays.OUTSIDE);
        still.due("what of link()", x.link(0, 3), FoldedWays.OUTSIDE);
        still.due("nodes of tree()", x.tree(0, 32), FoldedWays.OUTSIDE);
        still.due("nodes of bind()", x.bind(0, 0, 32), FoldedWays.OUTSIDE);
        still.due("variant of bound()", x.bound(1, 3), FoldedWays.OUTSIDE);
        still.due("nodes of fold()", x.fold(0, 32, 0, true), FoldedWays.OUTSIDE);
        still.due("variant of fold()", x.fold(0, 1, -1, true), FoldedWays.OUTSIDE);
        still.due("nodes of spread()", x.spread(0, -1, 0, true, 0), FoldedWays.OUTSIDE);
        still.due("variant of spread()", x.spread(0, 1, 3, true, 0), FoldedWays.OUTSIDE);
        still.due("what of spread()", x.spread(0, 1, 0, true, 9), FoldedWays.OUTSIDE);
        still.due("nodes of best()", x.best(0, 32, true), FoldedWays.OUTSIDE);
        still.due("nodes of send()", x.send(0, 32, true), FoldedWays.OUTSIDE);
        still.due("what of count()", x.count(12), FoldedWays.OUTSIDE);
    }

    @Holds("STATE (as told)")
    static void state() {
        FoldedWays x = rich();
        Still still = new Still(x);
        still.due("THE PAGE is no NET", x.net(), FoldedWays.STATE);
        still.due("the TREE is empty", x.bind(0, 0, 16), FoldedWays.STATE);
        still.due("no BUNDLE there", x.loosen(0), FoldedWays.STATE);
    }

    @Holds("FULL; they change nothing.")
    static void full() {
        FoldedWays x = rich();
        new Still(x).due("a BUNDLE is there", x.bind(1, 0, 2), FoldedWays.FULL);
        Check.type(x, "1,12,23,abcdefghijklmnopqrs");
        Check.due("letters", x.count(2), 25);
        new Still(x).due("THE PAGE is full", x.letter('a'), FoldedWays.FULL);
    }

    @Holds("Refusals, of several the first as told by each call:")
    static void ofLettersAndBundles() {
        FoldedWays x = rich();
        Check.type(x, "abcdefghijklmnopqrstuvwxyz");
        Still still = new Still(x);
        still.due("OUTSIDE, FULL", x.letter(31), FoldedWays.OUTSIDE);
        still.due("UNKNOWN (place), OUTSIDE", x.bind(4, 0, 32), FoldedWays.UNKNOWN);
        still.due("UNKNOWN (place), STATE", x.bind(4, 0, 0), FoldedWays.UNKNOWN);
        still.due("UNKNOWN (from), OUTSIDE, FULL", x.bind(1, 5, 32), FoldedWays.UNKNOWN);
        still.due("UNKNOWN (from), FULL", x.bind(1, 5, 2), FoldedWays.UNKNOWN);
        still.due("OUTSIDE, FULL", x.bind(1, 0, 32), FoldedWays.OUTSIDE);
        still.due("STATE, FULL", x.bind(1, 0, 16), FoldedWays.STATE);
        still.due("UNKNOWN, STATE", x.loosen(4), FoldedWays.UNKNOWN);
        still.due("UNKNOWN, OUTSIDE", x.bound(4, 3), FoldedWays.UNKNOWN);
        still.due("UNKNOWN (none there), OUTSIDE", x.bound(0, 3), FoldedWays.UNKNOWN);
    }

    @Holds("Refusals, of several the first as told by each call:")
    static void ofTheOtherCalls() {
        FoldedWays x = rich();
        Still still = new Still(x);
        still.due("mark: UNKNOWN, OUTSIDE", x.mark(6, 3), FoldedWays.UNKNOWN);
        still.due("link: UNKNOWN, OUTSIDE", x.link(6, 3), FoldedWays.UNKNOWN);
        still.due("way: UNKNOWN, NONE", x.way(5, 0, -1), FoldedWays.UNKNOWN);
        still.due("tree: UNKNOWN, OUTSIDE", x.tree(5, 32), FoldedWays.UNKNOWN);
        still.due("fold: UNKNOWN, OUTSIDE", x.fold(5, 32, 3, true), FoldedWays.UNKNOWN);
        still.due("spread: UNKNOWN, OUTSIDE", x.spread(5, 32, 3, true, 9), FoldedWays.UNKNOWN);
        still.due("best: UNKNOWN, OUTSIDE", x.best(5, 32, true), FoldedWays.UNKNOWN);
        still.due("send: UNKNOWN, OUTSIDE", x.send(5, 32, true), FoldedWays.UNKNOWN);
    }
}
