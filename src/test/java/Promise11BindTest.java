@Section("Promise 11: bind")
public final class Promise11BindTest {
    private static final String NET = "5,01,12,30";
    /** Of NODE 0 in that NET: none, itself, one without a WAY, both. */
    private static final int[] EMPTY = {0, 1, 16, 17};

    public static void main(String[] args) {
        Sentences.run(Promise11BindTest.class);
    }

    /** With a BUNDLE at place 1 alone. */
    private static FoldedWays oneBound() {
        FoldedWays x = Check.withNet(NET);
        Check.due("bind(1, 0, 2)", x.bind(1, 0, 2), 1);
        return x;
    }

    @Holds("The TREE of a NODE and a set becomes the BUNDLE at a place: how many LINKS it has.")
    static void itsLinks() {
        FoldedWays x = Check.withNet(NET);
        Check.due("bind(0, 0, 14)", x.bind(0, 0, 14), 3);
        Check.due("BUNDLES", x.count(6), 1);
        int[] in = {1, 0, 1, 0, 0, 1};
        for (int link = 0; link < in.length; link++) {
            Check.due("link(" + link + ", 2)", x.link(link, 2), in[link]);
        }
        Check.due("loosen(0)", x.loosen(0), x.tree(0, 14));
    }

    @Holds("The TREE of a NODE and a set becomes the BUNDLE at a place: how many LINKS it has.")
    static void fewestAndMostLinks() {
        FoldedWays x = Check.withNet("6,01,12,23,34,45");
        Check.due("one LINK", x.bind(0, 5, 16), 1);
        Check.due("five LINKS", x.bind(1, 0, 32), 5);
        Check.due("five LINKS from the midst", x.bind(2, 2, 63), 5);
    }

    @Holds("The TREE of a NODE and a set becomes the BUNDLE at a place: how many LINKS it has.")
    static void atEachOfFourPlaces() {
        FoldedWays x = Check.withNet(NET);
        for (int place = 0; place < 4; place++) {
            Check.due("bind(" + place + ")", x.bind(place, 0, 4), 2);
            Check.due("BUNDLES", x.count(6), place + 1);
            Check.due("link(2, 2)", x.link(2, 2), (2 << place) - 1);
        }
    }

    @Holds("The TREE of a NODE and a set becomes the BUNDLE at a place: how many LINKS it has.")
    static void againWhereOneWasLoosened() {
        FoldedWays x = oneBound();
        Check.due("loosen(1)", x.loosen(1), 1);
        Check.due("bind(1, 3, 1)", x.bind(1, 3, 1), 1);
        Check.due("loosen(1)", x.loosen(1), 16);
    }

    @Holds("UNKNOWN: place (0 to 3), from")
    static void placeTooSmallOrTooLarge() {
        FoldedWays x = oneBound();
        for (int place : Check.outside(0, 3)) {
            new Still(x).due("bind(" + place + ", 0, 2)", x.bind(place, 0, 2), FoldedWays.UNKNOWN);
        }
    }

    @Holds("UNKNOWN: place (0 to 3), from")
    static void fromTooSmallOrTooLarge() {
        FoldedWays x = oneBound();
        for (int from : Check.outside(0, 4)) {
            new Still(x).due("bind(0, " + from + ", 2)", x.bind(0, from, 2), FoldedWays.UNKNOWN);
        }
        FoldedWays y = new FoldedWays();
        new Still(y).due("bind(0, 0, 1) without a NET", y.bind(0, 0, 1), FoldedWays.UNKNOWN);
    }

    @Holds("OUTSIDE: nodes")
    static void nodesTooSmallOrTooLarge() {
        FoldedWays x = oneBound();
        for (int nodes : Check.outside(0, 31)) {
            new Still(x).due("bind(0, 0, " + nodes + ")", x.bind(0, 0, nodes), FoldedWays.OUTSIDE);
        }
        Check.due("bind(0, 0, 31)", x.bind(0, 0, 31), 3);
    }

    @Holds("STATE: the TREE is empty")
    static void anEmptyTree() {
        FoldedWays x = oneBound();
        for (int nodes : EMPTY) {
            new Still(x).due("bind(0, 0, " + nodes + ")", x.bind(0, 0, nodes), FoldedWays.STATE);
        }
        new Still(x).due("from where none goes", x.bind(0, 4, 31), FoldedWays.STATE);
    }

    @Holds("FULL: there is one at that place.")
    static void oneIsThere() {
        FoldedWays x = oneBound();
        new Still(x).due("the same", x.bind(1, 0, 2), FoldedWays.FULL);
        new Still(x).due("another", x.bind(1, 0, 8), FoldedWays.FULL);
        Check.due("loosen(1)", x.loosen(1), 1);
    }

    @Holds("FULL: there is one at that place.")
    static void allFourAreThere() {
        FoldedWays x = Check.withNet(NET);
        for (int place = 0; place < 4; place++) {
            x.bind(place, place, 15);
        }
        for (int place = 0; place < 4; place++) {
            new Still(x).due("bind(" + place + ")", x.bind(place, 0, 2), FoldedWays.FULL);
        }
        Check.due("BUNDLES", x.count(6), 4);
    }

    @Holds({"UNKNOWN: place (0 to 3), from", "OUTSIDE: nodes", "STATE: the TREE is empty",
        "FULL: there is one at that place."})
    static void ofSeveralRefusalsTheFirst() {
        FoldedWays x = oneBound();
        Still still = new Still(x);
        still.due("place, from, nodes", x.bind(4, 5, 32), FoldedWays.UNKNOWN);
        still.due("place, nodes", x.bind(4, 0, 32), FoldedWays.UNKNOWN);
        still.due("place, empty", x.bind(-1, 0, 1), FoldedWays.UNKNOWN);
        still.due("from, nodes", x.bind(0, 5, 32), FoldedWays.UNKNOWN);
        still.due("from, nodes, full", x.bind(1, -1, -1), FoldedWays.UNKNOWN);
        still.due("from, empty", x.bind(0, 5, 0), FoldedWays.UNKNOWN);
        still.due("from, full", x.bind(1, 5, 2), FoldedWays.UNKNOWN);
        still.due("nodes, full", x.bind(1, 0, 32), FoldedWays.OUTSIDE);
        still.due("nodes, of a TREE that would be empty", x.bind(0, 4, 32), FoldedWays.OUTSIDE);
        for (int nodes : EMPTY) {
            still.due("empty, full", x.bind(1, 0, nodes), FoldedWays.STATE);
        }
    }
}
