/** WAY, TREE. */
final class TermsWays {
    private TermsWays() {
    }

    private static void way(FoldedWays x, int from, int to, int... nodes) {
        for (int place = 0; place < nodes.length; place++) {
            Check.due("way(" + from + ", " + to + ", " + place + ")", x.way(from, to, place), nodes[place]);
        }
        int behind = nodes.length;
        Check.due("way(" + from + ", " + to + ", " + behind + ")", x.way(from, to, behind), FoldedWays.NONE);
    }

    @Holds("WAY from a NODE to another one: the fewest LINKS, one behind the other")
    static void theFewestLinks() {
        FoldedWays ring = Check.withNet("5,01,12,23,34,04");
        way(ring, 0, 3, 0, 4, 3);
        way(ring, 3, 0, 3, 4, 0);
        way(ring, 0, 2, 0, 1, 2);
        FoldedWays chord = Check.withNet("5,01,12,23,34,14");
        way(chord, 0, 4, 0, 1, 4);
    }

    @Holds("WAY from a NODE to another one: the fewest LINKS, one behind the other")
    static void oneLinkAndTheMostLinks() {
        FoldedWays x = Check.withNet("6,01,12,23,34,45");
        way(x, 3, 2, 3, 2);
        way(x, 0, 5, 0, 1, 2, 3, 4, 5);
        way(x, 5, 0, 5, 4, 3, 2, 1, 0);
    }

    @Holds("WAY from a NODE to another one: the fewest LINKS, one behind the other")
    static void toItselfThereAreNoLinks() {
        // the document leaves this open ("another one"); see NOTES.md
        FoldedWays x = Check.withNet("6,01,12,23,34,45");
        way(x, 4, 4, 4);
    }

    @Holds("of several such the first by the numbers of its NODES (the lesser one, where they are unlike first)")
    static void theFirstByNumbersHoweverTheLinksCome() {
        FoldedWays ring = Check.withNet("4,30,23,12,01");
        way(ring, 0, 2, 0, 1, 2);
        way(ring, 2, 0, 2, 1, 0);
        way(ring, 1, 3, 1, 0, 3);
        way(ring, 3, 1, 3, 0, 1);
        FoldedWays six = Check.withNet("6,05,54,43,32,21,10");
        way(six, 0, 3, 0, 1, 2, 3);
        way(six, 3, 0, 3, 2, 1, 0);
        way(six, 5, 2, 5, 0, 1, 2);
        way(six, 1, 4, 1, 0, 5, 4);
    }

    @Holds("of several such the first by the numbers of its NODES (the lesser one, where they are unlike first)")
    static void whereTheyAreUnlikeFirstNotLast() {
        // 0 2 5 3, as 2 is lesser than 4, though in 0 4 1 3 what comes then is lesser
        FoldedWays x = Check.withNet("6,04,41,13,02,25,53");
        way(x, 0, 3, 0, 2, 5, 3);
        way(x, 3, 0, 3, 1, 4, 0);
    }

    @Holds("of several such the first by the numbers of its NODES (the lesser one, where they are unlike first)")
    static void alsoWhereTheyAreUnlikeLater() {
        // alike up to 1, then 2 or 3
        FoldedWays x = Check.withNet("5,01,13,12,34,24");
        way(x, 0, 4, 0, 1, 2, 4);
        way(x, 4, 0, 4, 2, 1, 0);
    }

    @Holds("; none.")
    static void none() {
        FoldedWays x = Check.withNet("5,01,34");
        way(x, 0, 3);
        way(x, 4, 1);
        way(x, 2, 0);
        way(x, 0, 2);
    }

    @Holds("TREE of a NODE and a set of NODES: all LINKS on the WAYS from it to each of these")
    static void allLinksOnTheWays() {
        FoldedWays x = Check.withNet("5,01,12,30");
        Check.due("one LINK", x.tree(0, 2), 1);
        Check.due("two LINKS, one behind the other", x.tree(0, 4), 1 | 4);
        Check.due("a LINK of two WAYS is there once", x.tree(0, 6), 1 | 4);
        Check.due("two WAYS apart", x.tree(0, 12), 1 | 4 | 32);
        Check.due("back", x.tree(2, 1), 8 | 2);
        FoldedWays ring = Check.withNet("4,01,12,23,30");
        Check.due("of like WAYS the first", ring.tree(0, 15), 1 | 4 | 128);
    }

    @Holds("(where there is one; itself does nothing).")
    static void whereThereIsNoWay() {
        FoldedWays x = Check.withNet("5,01,12,30");
        Check.due("alone", x.tree(0, 16), 0);
        Check.due("beside others", x.tree(0, 31), 1 | 4 | 32);
        Check.due("from where none goes", x.tree(4, 31), 0);
    }

    @Holds("(where there is one; itself does nothing).")
    static void itself() {
        FoldedWays x = Check.withNet("5,01,12,30");
        for (int node = 0; node < 5; node++) {
            Check.due("tree(" + node + ", itself)", x.tree(node, 1 << node), 0);
            Check.due("itself beside all others", x.tree(node, 31), x.tree(node, 31 & ~(1 << node)));
        }
    }

    @Holds("TREE of a NODE and a set of NODES: all LINKS on the WAYS from it to each of these")
    static void ofAnEmptySet() {
        FoldedWays x = Check.withNet("5,01,12,30");
        for (int node = 0; node < 5; node++) {
            Check.due("tree(" + node + ", 0)", x.tree(node, 0), 0);
        }
    }
}
