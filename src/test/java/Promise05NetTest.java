@Section("Promise 5: net")
public final class Promise05NetTest {
    private static final String EIGHT = "6,01,12,23,34,45,50,02,31";

    public static void main(String[] args) {
        Sentences.run(Promise05NetTest.class);
    }

    /** A NET with a BUNDLE at each place, settings of its own, and something sent. */
    private static FoldedWays rich() {
        FoldedWays x = Check.withNet(EIGHT, 8, 1, 9);
        for (int place = 0; place < 4; place++) {
            Check.due("bind(" + place + ")", x.bind(place, place, 63), 5);
        }
        x.send(0, 63, false);
        x.send(1, 63, true);
        return x;
    }

    @Holds("THE PAGE is read as a NET")
    static void itsNodesAndLinks() {
        FoldedWays x = Check.withNet("6,50,12,43");
        Check.due("NODES", x.count(0), 6);
        Check.due("LINKS", x.count(1), 6);
        Check.due("NETS read", x.count(7), 1);
        int[][] ends = {{5, 0}, {0, 5}, {1, 2}, {2, 1}, {4, 3}, {3, 4}};
        for (int link = 0; link < ends.length; link++) {
            Check.due("link(" + link + ", 0)", x.link(link, 0), ends[link][0]);
            Check.due("link(" + link + ", 1)", x.link(link, 1), ends[link][1]);
        }
    }

    @Holds("(another one is gone, with its BUNDLES")
    static void theNetAheadIsGone() {
        FoldedWays x = rich();
        Check.type(x, "3,20");
        Check.due("another NET", x.net(), 2);
        Check.due("NODES", x.count(0), 3);
        Check.due("LINKS", x.count(1), 2);
        Check.due("link(0, 0)", x.link(0, 0), 2);
        Check.due("link(1, 0)", x.link(1, 0), 0);
        Check.due("link(2, 0)", x.link(2, 0), FoldedWays.UNKNOWN);
        Check.due("mark(2, 0)", x.mark(2, 0), FoldedWays.UNKNOWN);
        Check.due("its WAYS", x.way(0, 1, 0), FoldedWays.NONE);
        Check.due("its TREES", x.tree(0, 7), 2);
        Check.due("its NODES", x.tree(3, 0), FoldedWays.UNKNOWN);
        Check.due("its sets", x.tree(0, 8), FoldedWays.OUTSIDE);
    }

    @Holds("(another one is gone, with its BUNDLES")
    static void noWayAndNoTreeOfItIsLeft() {
        String[] texts = {"6,45", "6,01,23,54", "5,43", "2,10"};
        for (String text : texts) {
            FoldedWays x = rich();
            Check.type(x, text);
            x.net();
            FoldedWays alone = Check.withNet(text);
            for (int pair = 0; pair < 36; pair++) {
                sameWay(x, alone, pair / 6, pair % 6);
            }
        }
    }

    private static void sameWay(FoldedWays x, FoldedWays alone, int from, int to) {
        String at = "(" + from + ", " + to + ")";
        Check.due("the TREE of " + at, x.tree(from, 1 << to), alone.tree(from, 1 << to));
        for (int place = 0; place < 6; place++) {
            Check.due("the WAY of " + at + ", " + place, x.way(from, to, place), alone.way(from, to, place));
        }
    }

    @Holds("(another one is gone, with its BUNDLES")
    static void itsBundlesAreGone() {
        FoldedWays x = rich();
        Check.type(x, EIGHT);
        Check.due("the same NET again", x.net(), 16);
        Check.due("BUNDLES", x.count(6), 0);
        for (int link = 0; link < 16; link++) {
            Check.due("link(" + link + ", 2)", x.link(link, 2), 0);
        }
        for (int place = 0; place < 4; place++) {
            Check.due("bound(" + place + ", 0)", x.bound(place, 0), FoldedWays.UNKNOWN);
            Check.due("loosen(" + place + ")", x.loosen(place), FoldedWays.STATE);
            Check.due("bind(" + place + ")", x.bind(place, 0, 2), 1);
        }
    }

    @Holds("WIDTH, DRAWN, SEED, what was counted stay)")
    static void settingsStay() {
        FoldedWays x = rich();
        Check.type(x, "2,01");
        Check.due("another NET", x.net(), 2);
        Check.due("WIDTH", x.count(3), 8);
        Check.due("DRAWN", x.count(4), 1);
        Check.due("SEED", x.count(5), 9);
        FoldedWays alike = Check.withNet("2,01", 8, 1, 9);
        for (int variant = 0; variant < 3; variant++) {
            Check.due("mark(1, " + variant + ")", x.mark(1, variant), alike.mark(1, variant));
        }
    }

    @Holds("WIDTH, DRAWN, SEED, what was counted stay)")
    static void settingsOfNoNetStay() {
        FoldedWays x = new FoldedWays();
        x.set(0, 20);
        x.set(1, 2);
        x.set(2, 5);
        Check.type(x, "2,01");
        Check.due("net()", x.net(), 2);
        Check.due("as if set behind it", x.digest(), Check.withNet("2,01", 20, 2, 5).digest());
    }

    @Holds("WIDTH, DRAWN, SEED, what was counted stay)")
    static void whatWasCountedStays() {
        FoldedWays x = rich();
        int[] counted = new int[12];
        for (int what = 7; what < 12; what++) {
            counted[what] = x.count(what);
        }
        Check.due("it was sent", counted[8], 2);
        Check.due("with PASSAGES", counted[9] > 0);
        Check.type(x, "2,01");
        Check.due("another NET", x.net(), 2);
        Check.due("NETS read: one more", x.count(7), counted[7] + 1);
        for (int what = 8; what < 12; what++) {
            Check.due("count(" + what + ")", x.count(what), counted[what]);
        }
    }

    @Holds("how many LINKS")
    static void twoOfEachPair() {
        for (int pairs = 1; pairs <= 8; pairs++) {
            FoldedWays x = Check.withPage(EIGHT.substring(0, 1 + 3 * pairs));
            Check.due("net() of " + pairs, x.net(), 2 * pairs);
            Check.due("LINKS", x.count(1), 2 * pairs);
        }
    }

    @Holds("THE PAGE is empty then.")
    static void thePageIsEmptyThen() {
        FoldedWays x = Check.withNet(EIGHT);
        Check.due("letters", x.count(2), 0);
        Check.due("fault()", x.fault(), 0);
        Check.due("net() again", x.net(), FoldedWays.STATE);
        Check.due("blank()", x.blank(), 0);
        Check.due("letter()", x.letter('2'), 1);
    }

    @Holds("STATE: it is none.")
    static void anEmptyPageIsNone() {
        FoldedWays x = rich();
        new Still(x).due("net()", x.net(), FoldedWays.STATE);
        FoldedWays y = new FoldedWays();
        new Still(y).due("net() of a new object", y.net(), FoldedWays.STATE);
    }

    @Holds("STATE: it is none.")
    static void aBeginningIsNone() {
        for (int many = 1; many < 25; many++) {
            if (many % 3 != 1 || many == 1) {
                refused(EIGHT.substring(0, many));
            }
        }
    }

    @Holds("STATE: it is none.")
    static void aFaultMakesItNone() {
        for (int place = 0; place < 25; place++) {
            refused(EIGHT.substring(0, place) + "x" + EIGHT.substring(place + 1));
        }
        refused("4,01 ");
        refused("4,01,01");
        refused("4,0123");
    }

    private static void refused(String text) {
        FoldedWays x = rich();
        Check.type(x, text);
        new Still(x).due("net() of " + text, x.net(), FoldedWays.STATE);
        Check.due("letters", x.count(2), text.length());
        Check.due("NETS read", x.count(7), 1);
        Check.due("BUNDLES", x.count(6), 4);
    }
}
