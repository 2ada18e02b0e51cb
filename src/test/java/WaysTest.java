/** Promises 9 and 10: way, tree. */
public final class WaysTest {
    public static void main(String[] args) {
        line();
        firstByNumbers();
        fewestLinks();
        noWay();
        refusals();
        trees();
        Check.end();
    }

    private static void way(FoldedWays x, int from, int to, int... nodes) {
        for (int place = 0; place < nodes.length; place++) {
            Check.due("way(" + from + ", " + to + ", " + place + ")", x.way(from, to, place), nodes[place]);
        }
        int[] no = {-1, nodes.length, nodes.length + 1, 6, 40, Integer.MIN_VALUE, Integer.MAX_VALUE};
        for (int place : no) {
            if (place < 0 || place >= nodes.length) {
                Check.due("way(" + from + ", " + to + ", " + place + ")", x.way(from, to, place), FoldedWays.NONE);
            }
        }
    }

    private static void line() {
        FoldedWays x = Check.withNet("6,01,12,23,34,45");
        way(x, 0, 5, 0, 1, 2, 3, 4, 5);
        way(x, 5, 0, 5, 4, 3, 2, 1, 0);
        way(x, 2, 4, 2, 3, 4);
        way(x, 3, 2, 3, 2);
        // a NODE itself: no LINKS, and place 0 is from
        way(x, 4, 4, 4);
    }

    private static void firstByNumbers() {
        FoldedWays ring = Check.withNet("4,30,23,12,01");
        way(ring, 0, 2, 0, 1, 2);
        way(ring, 2, 0, 2, 1, 0);
        way(ring, 1, 3, 1, 0, 3);
        way(ring, 3, 1, 3, 0, 1);
        FoldedWays six = Check.withNet("6,05,54,43,32,21,10");
        way(six, 0, 3, 0, 1, 2, 3);
        way(six, 3, 0, 3, 2, 1, 0);
        way(six, 5, 2, 5, 0, 1, 2);
        way(six, 1, 4, 1, 0, 5, 4);
        // not the one whose last NODES are lesser: 0 2 5 3, as 2 is lesser than 4, not 0 4 1 3
        FoldedWays unlikeFirst = Check.withNet("6,04,41,13,02,25,53");
        way(unlikeFirst, 0, 3, 0, 2, 5, 3);
        way(unlikeFirst, 3, 0, 3, 1, 4, 0);
    }

    private static void fewestLinks() {
        FoldedWays x = Check.withNet("5,01,12,23,34,04");
        way(x, 0, 3, 0, 4, 3);
        way(x, 3, 0, 3, 4, 0);
        way(x, 0, 2, 0, 1, 2);
        FoldedWays chord = Check.withNet("5,01,12,23,34,14");
        way(chord, 0, 4, 0, 1, 4);
    }

    private static void noWay() {
        FoldedWays x = Check.withNet("5,01,34");
        way(x, 0, 3);
        way(x, 3, 1);
        way(x, 2, 0);
        way(x, 0, 2);
        way(x, 3, 4, 3, 4);
    }

    private static void refusals() {
        FoldedWays x = Check.withNet("5,01,34");
        int[] no = {-1, 5, 6, Integer.MIN_VALUE, Integer.MAX_VALUE};
        for (int node : no) {
            Check.due("way(" + node + ", 0, 0)", x.way(node, 0, 0), FoldedWays.UNKNOWN);
            Check.due("way(0, " + node + ", -1)", x.way(0, node, -1), FoldedWays.UNKNOWN);
            Check.due("tree(" + node + ", 1)", x.tree(node, 1), FoldedWays.UNKNOWN);
            Check.due("tree(" + node + ", 32)", x.tree(node, 32), FoldedWays.UNKNOWN);
        }
        int[] noSets = {-1, 32, 33, 64, Integer.MIN_VALUE, Integer.MAX_VALUE};
        for (int set : noSets) {
            Check.due("tree(0, " + set + ")", x.tree(0, set), FoldedWays.OUTSIDE);
        }
        Check.due("tree(0, 63) of six", Check.withNet("6,01").tree(0, 63), 1);
        Check.due("tree(0, 64) of six", Check.withNet("6,01").tree(0, 64), FoldedWays.OUTSIDE);
        Check.due("tree(0, 4) of two", Check.withNet("2,01").tree(0, 4), FoldedWays.OUTSIDE);
    }

    private static void trees() {
        FoldedWays x = Check.withNet("5,01,12,30");
        Check.due("none", x.tree(0, 0), 0);
        Check.due("itself", x.tree(0, 1), 0);
        Check.due("one LINK", x.tree(0, 2), 1);
        Check.due("two LINKS", x.tree(0, 4), 1 | 4);
        Check.due("shared LINKS once", x.tree(0, 6), 1 | 4);
        Check.due("all, one of them without a WAY", x.tree(0, 31), 1 | 4 | 32);
        Check.due("back", x.tree(2, 1), 8 | 2);
        Check.due("back, and on", x.tree(2, 8), 8 | 2 | 32);
        Check.due("from 3", x.tree(3, 4), 16 | 1 | 4);
        Check.due("no WAY", x.tree(0, 16), 0);
        Check.due("from where none is", x.tree(4, 31), 0);
        FoldedWays ring = Check.withNet("4,01,12,23,30");
        Check.due("of like WAYS the first", ring.tree(0, 15), 1 | 4 | 128);
        Check.due("greatest LINK", Check.withNet("6,01,02,03,04,05,12,34,35").tree(5, 8), 1 << 15);
    }
}
