@Section("Promise 17: send")
public final class Promise17SendTest {
    public static void main(String[] args) {
        Sentences.run(Promise17SendTest.class);
    }

    private static void counted(FoldedWays x, int sent, int passages, int astray, int loops) {
        Check.due("count(8)", x.count(8), sent);
        Check.due("count(9)", x.count(9), passages);
        Check.due("count(10)", x.count(10), astray);
        Check.due("count(11)", x.count(11), loops);
    }

    @Holds("It is sent in its BEST VARIANT: how many PASSAGES are ASTRAY.")
    static void inItsBestVariant() {
        FoldedWays x = Small.net();
        Check.due("send(0, 2): VARIANT 1, not 0 with one ASTRAY", x.send(0, 2, false), 0);
        counted(x, 1, 1, 0, 0);
        Check.due("send(0, 4): VARIANT 2", x.send(0, 4, false), 0);
        counted(x, 2, 3, 0, 0);
    }

    @Holds("It is sent in its BEST VARIANT: how many PASSAGES are ASTRAY.")
    static void someAreAstrayInTheBestVariant() {
        FoldedWays x = Small.net();
        x.bind(0, 0, 4);
        // LINK 2 MATCHES by the BUNDLE in VARIANT 1: one PASSAGE is ASTRAY in each, so it is 0
        Check.due("send(0, 2)", x.send(0, 2, false), 1);
        counted(x, 1, 2, 1, 1);
        Check.due("send(0, 2) again", x.send(0, 2, false), 1);
        counted(x, 2, 4, 2, 2);
    }

    @Holds("It is sent in its BEST VARIANT: how many PASSAGES are ASTRAY.")
    static void astrayIsNeitherPassagesNorLoops() {
        FoldedWays x = Ring.ofFourTwoAndOne();
        Check.due("send(0, 8)", x.send(0, 8, false), 2);
        counted(x, 1, 4, 2, 1);
    }

    @Holds("It is sent in its BEST VARIANT: how many PASSAGES are ASTRAY.")
    static void astrayIsNotHowManyLinksMatchBesideTheTree() {
        // LINKS 3 (2-0) and 5 (3-1) MATCH in VARIANT 1, but nothing comes to NODE 3
        FoldedWays x = Ring.withSeed(17);
        Check.due("LINKS that MATCH", x.spread(1, 4, 1, false, 8), 2);
        Check.due("send(1, 4)", x.send(1, 4, false), 1);
        counted(x, 1, 3, 1, 1);
    }

    @Holds("It is sent in its BEST VARIANT: how many PASSAGES are ASTRAY.")
    static void boundOrNot() {
        // LINKS 0 to 3 have 3 3 1 3, then 3 6 5 3, then 7 7 6 0; BUNDLE 0 has 1, then 1, then 3
        FoldedWays x = Small.withSeed(12);
        x.bind(0, 0, 4);
        Check.due("send(0, 4, false): VARIANT 1", x.send(0, 4, false), 1);
        counted(x, 1, 3, 1, 1);
        Check.due("send(0, 4, true): VARIANT 0", x.send(0, 4, true), 0);
        counted(x, 2, 5, 1, 1);
    }

    @Holds("It is sent in its BEST VARIANT: how many PASSAGES are ASTRAY.")
    static void theBestVariantIsOfBoundOrNotAsIsSent() {
        // ASTRAY if not bound 1 0 0, if bound 0 1 0: either VARIANT in place of the other one has one ASTRAY
        FoldedWays x = Small.withSeed(31);
        x.bind(0, 0, 4);
        Check.due("send(0, 4, true): VARIANT 0", x.send(0, 4, true), 0);
        counted(x, 1, 2, 0, 0);
        Check.due("send(0, 4, false): VARIANT 1", x.send(0, 4, false), 0);
        counted(x, 2, 4, 0, 0);
    }

    @Holds("It is sent in its BEST VARIANT: how many PASSAGES are ASTRAY.")
    static void ofAnEmptyTree() {
        FoldedWays x = Small.net();
        Check.due("to none", x.send(0, 0, true), 0);
        Check.due("to itself", x.send(0, 1, false), 0);
        counted(x, 2, 0, 0, 0);
    }

    @Holds("It is sent in its BEST VARIANT: how many PASSAGES are ASTRAY.")
    static void onlySendingIsCounted() {
        FoldedWays x = Small.net();
        x.spread(0, 2, 0, false, 1);
        x.best(0, 2, false);
        x.fold(0, 2, 0, false);
        x.digest();
        counted(x, 0, 0, 0, 0);
    }

    @Holds("It is sent in its BEST VARIANT: how many PASSAGES are ASTRAY.")
    static void nothingElseChanges() {
        FoldedWays x = Check.withNet("3,01,12");
        x.bind(1, 0, 4);
        x.letter('5');
        int[] before = new int[8];
        for (int what = 0; what < 8; what++) {
            before[what] = x.count(what);
        }
        long mark = x.mark(3, 2);
        x.send(0, 7, true);
        for (int what = 0; what < 8; what++) {
            Check.due("count(" + what + ")", x.count(what), before[what]);
        }
        Check.due("the SEED and what is drawn from it", x.mark(3, 2), mark);
    }

    @Holds("UNKNOWN: from")
    static void fromTooSmallOrTooLarge() {
        FoldedWays x = Small.net();
        x.send(0, 7, false);
        for (int from : Check.outside(0, 2)) {
            new Still(x).due("send(" + from + ", 1, false)", x.send(from, 1, false), FoldedWays.UNKNOWN);
        }
        FoldedWays y = new FoldedWays();
        new Still(y).due("send(0, 0, false) without a NET", y.send(0, 0, false), FoldedWays.UNKNOWN);
    }

    @Holds("OUTSIDE: nodes.")
    static void nodesTooSmallOrTooLarge() {
        FoldedWays x = Small.net();
        x.send(0, 7, false);
        for (int nodes : Check.outside(0, 7)) {
            new Still(x).due("send(0, " + nodes + ", true)", x.send(0, nodes, true), FoldedWays.OUTSIDE);
        }
    }

    @Holds({"UNKNOWN: from", "OUTSIDE: nodes."})
    static void unknownIsToldAheadOfOutside() {
        FoldedWays x = Small.net();
        for (int nodes : Check.outside(0, 7)) {
            new Still(x).due("send(3, " + nodes + ", true)", x.send(3, nodes, true), FoldedWays.UNKNOWN);
        }
    }
}
