/** Promises 11 to 13: bind, loosen, bound. */
public final class BundlesTest {
    private static final int[] NO_PLACES = {-1, 4, 5, Integer.MIN_VALUE, Integer.MAX_VALUE};
    private static final int[] NO_NODES = {-1, 5, Integer.MIN_VALUE, Integer.MAX_VALUE};
    private static final int[] NO_SETS = {-1, 32, Integer.MIN_VALUE, Integer.MAX_VALUE};

    public static void main(String[] args) {
        bindAndLoosen();
        bindRefusals();
        loosenRefusals();
        boundMarks();
        Check.end();
    }

    private static void bindAndLoosen() {
        FoldedWays x = Check.withNet("5,01,12,30");
        long free = x.digest();
        Check.due("bind(0)", x.bind(0, 0, 14), 3);
        Check.due("count(6)", x.count(6), 1);
        Check.due("bind(3), the same TREE", x.bind(3, 0, 31), 3);
        Check.due("bind(2)", x.bind(2, 2, 1), 2);
        Check.due("bind(1)", x.bind(1, 1, 4), 1);
        Check.due("count(6)", x.count(6), 4);
        Check.due("link(0, 2)", x.link(0, 2), 9);
        Check.due("link(1, 2)", x.link(1, 2), 4);
        Check.due("link(2, 2)", x.link(2, 2), 11);
        Check.due("link(3, 2)", x.link(3, 2), 4);
        Check.due("link(4, 2)", x.link(4, 2), 0);
        Check.due("link(5, 2)", x.link(5, 2), 9);
        Check.due("loosen(3)", x.loosen(3), 1 | 4 | 32);
        Check.due("loosen(2)", x.loosen(2), 8 | 2);
        Check.due("count(6)", x.count(6), 2);
        Check.due("link(0, 2)", x.link(0, 2), 1);
        Check.due("bind(2) anew", x.bind(2, 3, 1), 1);
        Check.due("loosen(2) anew", x.loosen(2), 16);
        Check.due("loosen(0)", x.loosen(0), 1 | 4 | 32);
        Check.due("loosen(1)", x.loosen(1), 4);
        Check.due("all as ahead of it", x.digest(), free);
    }

    private static void bindRefusals() {
        FoldedWays x = Check.withNet("5,01,12,30");
        x.bind(1, 0, 2);
        long before = x.digest();
        for (int place : NO_PLACES) {
            Check.refused(x, before, "bind(" + place + ", 0, 2)", x.bind(place, 0, 2), FoldedWays.UNKNOWN);
            Check.refused(x, before, "bind(" + place + ", 0, 32)", x.bind(place, 0, 32), FoldedWays.UNKNOWN);
        }
        for (int node : NO_NODES) {
            Check.refused(x, before, "bind(0, " + node + ", 2)", x.bind(0, node, 2), FoldedWays.UNKNOWN);
            Check.refused(x, before, "bind(1, " + node + ", -1)", x.bind(1, node, -1), FoldedWays.UNKNOWN);
        }
        for (int set : NO_SETS) {
            Check.refused(x, before, "bind(0, 0, " + set + ")", x.bind(0, 0, set), FoldedWays.OUTSIDE);
            Check.refused(x, before, "bind(1, 0, " + set + ")", x.bind(1, 0, set), FoldedWays.OUTSIDE);
        }
        int[] empty = {0, 1, 16, 17};
        for (int set : empty) {
            Check.refused(x, before, "bind(0, 0, " + set + ")", x.bind(0, 0, set), FoldedWays.STATE);
            Check.refused(x, before, "bind(1, 0, " + set + ")", x.bind(1, 0, set), FoldedWays.STATE);
        }
        Check.refused(x, before, "bind(1, 0, 2)", x.bind(1, 0, 2), FoldedWays.FULL);
        Check.refused(x, before, "bind(1, 0, 8)", x.bind(1, 0, 8), FoldedWays.FULL);
    }

    private static void loosenRefusals() {
        FoldedWays x = Check.withNet("5,01,12,30");
        x.bind(1, 0, 2);
        long before = x.digest();
        for (int place : NO_PLACES) {
            Check.refused(x, before, "loosen(" + place + ")", x.loosen(place), FoldedWays.UNKNOWN);
        }
        int[] none = {0, 2, 3};
        for (int place : none) {
            Check.refused(x, before, "loosen(" + place + ")", x.loosen(place), FoldedWays.STATE);
        }
        Check.due("loosen(1)", x.loosen(1), 1);
        Check.due("loosen(1) again", x.loosen(1), FoldedWays.STATE);
    }

    /** DRAWN 1, WIDTH 8: four LINKS and four BUNDLES take eight DRAWS in each VARIANT. */
    private static void boundMarks() {
        FoldedWays x = Check.withNet("3,01,12");
        x.set(0, 8);
        x.set(1, 1);
        int[][] bits = {{3, 3, 2, 3}, {4, 4, 1, 7}, {6, 2, 7, 7}};
        for (int place = 0; place < 4; place++) {
            Check.due("bound(" + place + ", 0) of none", x.bound(place, 0), FoldedWays.UNKNOWN);
            Check.due("bound(" + place + ", 3) of none", x.bound(place, 3), FoldedWays.UNKNOWN);
            x.bind(place, 0, 4);
            for (int variant = 0; variant < 3; variant++) {
                Check.due("bound(" + place + ", " + variant + ")", x.bound(place, variant), 1L << bits[variant][place]);
            }
            int[] no = {-1, 3, Integer.MIN_VALUE, Integer.MAX_VALUE};
            for (int variant : no) {
                Check.due("bound(" + place + ", " + variant + ")", x.bound(place, variant), FoldedWays.OUTSIDE);
            }
        }
        for (int place : NO_PLACES) {
            Check.due("bound(" + place + ", 0)", x.bound(place, 0), FoldedWays.UNKNOWN);
            Check.due("bound(" + place + ", 3)", x.bound(place, 3), FoldedWays.UNKNOWN);
        }
        x.loosen(2);
        Check.due("bound(2, 0) loosened", x.bound(2, 0), FoldedWays.UNKNOWN);
    }
}
