@Section("Promise 18: count")
public final class Promise18CountTest {
    private static final String EIGHT = "6,01,12,23,34,45,50,02,31";

    public static void main(String[] args) {
        Sentences.run(Promise18CountTest.class);
    }

    @Holds("How many: 0 NODES, 1 LINKS")
    static void nodesAndLinks() {
        Check.due("NODES of none", new FoldedWays().count(0), 0);
        Check.due("LINKS of none", new FoldedWays().count(1), 0);
        for (int many = 2; many <= 6; many++) {
            FoldedWays x = Check.withNet(many + ",01");
            Check.due("NODES", x.count(0), many);
            Check.due("LINKS", x.count(1), 2);
        }
        FoldedWays x = Check.withNet(EIGHT);
        Check.due("most NODES", x.count(0), 6);
        Check.due("most LINKS", x.count(1), 16);
    }

    @Holds("2 letters of THE PAGE")
    static void letters() {
        FoldedWays x = new FoldedWays();
        for (int many = 0; many < 25; many++) {
            Check.due("letters", x.count(2), many);
            x.letter('a');
        }
        x.letter('a');
        Check.due("letters, at most", x.count(2), 25);
        x.blank();
        Check.due("letters behind blank()", x.count(2), 0);
    }

    @Holds("3 WIDTH, 4 DRAWN, 5 SEED")
    static void settings() {
        FoldedWays x = new FoldedWays();
        Check.due("WIDTH at first", x.count(3), 16);
        Check.due("DRAWN at first", x.count(4), 3);
        Check.due("SEED at first", x.count(5), 1);
        x.set(0, 11);
        x.set(1, 2);
        x.set(2, Integer.MAX_VALUE);
        Check.due("WIDTH", x.count(3), 11);
        Check.due("DRAWN", x.count(4), 2);
        Check.due("SEED", x.count(5), Integer.MAX_VALUE);
    }

    @Holds("6 BUNDLES that are there")
    static void bundles() {
        FoldedWays x = Check.withNet("4,01,12,23");
        Check.due("none", x.count(6), 0);
        x.bind(3, 0, 2);
        Check.due("one, at the last place", x.count(6), 1);
        x.bind(1, 0, 4);
        x.bind(0, 0, 4);
        x.bind(2, 0, 4);
        Check.due("four", x.count(6), 4);
        x.bind(2, 0, 2);
        Check.due("a fifth is refused", x.count(6), 4);
        x.loosen(0);
        Check.due("one is loosened", x.count(6), 3);
    }

    @Holds("7 how often a NET was read")
    static void netsRead() {
        FoldedWays x = new FoldedWays();
        for (int often = 0; often < 40; often++) {
            Check.due("NETS read", x.count(7), often);
            Check.type(x, "2,01");
            x.net();
            x.net();
        }
        Check.due("a refused net() is none", x.count(7), 40);
    }

    @Holds({"8 how often it was sent", "9 PASSAGES of these, 10 ASTRAY, 11 LOOPS, ever."})
    static void whatWasSent() {
        // VARIANT 0 of each: LINKS 0 and 1 have one bit and MATCH, LINK 1 is ASTRAY and a LOOP
        FoldedWays x = Small.net();
        x.bind(0, 0, 4);
        for (int often = 0; often < 40; often++) {
            Check.due("how often", x.count(8), often);
            Check.due("PASSAGES", x.count(9), 2 * often);
            Check.due("ASTRAY", x.count(10), often);
            Check.due("LOOPS", x.count(11), often);
            x.send(0, 2, false);
        }
    }

    @Holds("9 PASSAGES of these, 10 ASTRAY, 11 LOOPS, ever.")
    static void passagesAstrayAndLoopsAreCountedApart() {
        FoldedWays x = Ring.ofFourTwoAndOne();
        for (int often = 1; often <= 3; often++) {
            x.send(0, 8, false);
            Check.due("PASSAGES", x.count(9), 4 * often);
            Check.due("ASTRAY", x.count(10), 2 * often);
            Check.due("LOOPS", x.count(11), often);
        }
    }

    @Holds("9 PASSAGES of these, 10 ASTRAY, 11 LOOPS, ever.")
    static void theyStayWithOtherNetsAndSettings() {
        FoldedWays x = Small.net();
        x.bind(0, 0, 4);
        x.send(0, 2, false);
        Check.type(x, "2,01");
        x.net();
        x.set(0, 40);
        x.set(2, 5);
        int[] want = {1, 2, 1, 1};
        for (int what = 8; what < 12; what++) {
            Check.due("count(" + what + ")", x.count(what), want[what - 8]);
        }
    }

    @Holds("OUTSIDE.")
    static void whatTooSmallOrTooLarge() {
        FoldedWays x = Check.withNet("4,01,12,23");
        for (int what : Check.outside(0, 11)) {
            new Still(x).due("count(" + what + ")", x.count(what), FoldedWays.OUTSIDE);
        }
        Check.due("without a NET", new FoldedWays().count(12), FoldedWays.OUTSIDE);
    }

    @Holds("How many: 0 NODES, 1 LINKS")
    static void askingChangesNothing() {
        FoldedWays x = Check.withNet("4,01,12,23");
        Still still = new Still(x);
        int[] want = {4, 6, 0, 16, 3, 1, 0, 1, 0, 0, 0, 0};
        for (int what = 0; what < 12; what++) {
            still.due("count(" + what + ")", x.count(what), want[what]);
        }
    }
}
