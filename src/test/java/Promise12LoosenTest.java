@Section("Promise 12: loosen")
public final class Promise12LoosenTest {
    public static void main(String[] args) {
        Sentences.run(Promise12LoosenTest.class);
    }

    private static FoldedWays fourBound() {
        FoldedWays x = Check.withNet("5,01,12,30");
        Check.due("bind(0)", x.bind(0, 0, 14), 3);
        Check.due("bind(1)", x.bind(1, 1, 4), 1);
        Check.due("bind(2)", x.bind(2, 2, 1), 2);
        Check.due("bind(3), the same TREE as 0", x.bind(3, 0, 31), 3);
        return x;
    }

    @Holds("The BUNDLE at a place is gone: which LINKS it had, as bits.")
    static void eachInTurn() {
        FoldedWays x = fourBound();
        Check.due("loosen(3)", x.loosen(3), 1 | 4 | 32);
        Check.due("BUNDLES", x.count(6), 3);
        Check.due("link(0, 2)", x.link(0, 2), 1);
        Check.due("bound(3, 0)", x.bound(3, 0), FoldedWays.UNKNOWN);
        Check.due("loosen(2)", x.loosen(2), 8 | 2);
        Check.due("loosen(0)", x.loosen(0), 1 | 4 | 32);
        Check.due("link(2, 2)", x.link(2, 2), 2);
        Check.due("loosen(1)", x.loosen(1), 4);
        Check.due("BUNDLES", x.count(6), 0);
    }

    @Holds("The BUNDLE at a place is gone: which LINKS it had, as bits.")
    static void allIsAsAheadOfIt() {
        FoldedWays x = Check.withNet("5,01,12,30");
        long before = x.digest();
        for (int place = 0; place < 4; place++) {
            x.bind(place, 0, 4);
            Check.due("loosen(" + place + ")", x.loosen(place), 5);
            Check.due("digest()", x.digest(), before);
        }
    }

    @Holds("The BUNDLE at a place is gone: which LINKS it had, as bits.")
    static void theGreatestLink() {
        FoldedWays x = Check.withNet("6,01,02,03,04,05,12,34,35");
        x.bind(2, 5, 8);
        Check.due("loosen(2)", x.loosen(2), 1 << 15);
    }

    @Holds("UNKNOWN: place")
    static void placeTooSmallOrTooLarge() {
        FoldedWays x = fourBound();
        for (int place : Check.outside(0, 3)) {
            new Still(x).due("loosen(" + place + ")", x.loosen(place), FoldedWays.UNKNOWN);
        }
        Check.due("without a NET", new FoldedWays().loosen(4), FoldedWays.UNKNOWN);
    }

    @Holds("STATE: there is none.")
    static void noneIsThere() {
        FoldedWays x = Check.withNet("5,01,12,30");
        x.bind(1, 0, 2);
        int[] none = {0, 2, 3};
        for (int place : none) {
            new Still(x).due("loosen(" + place + ")", x.loosen(place), FoldedWays.STATE);
        }
        FoldedWays y = new FoldedWays();
        new Still(y).due("loosen(0) without a NET", y.loosen(0), FoldedWays.STATE);
    }

    @Holds("STATE: there is none.")
    static void itIsGoneAlready() {
        FoldedWays x = fourBound();
        for (int place = 0; place < 4; place++) {
            x.loosen(place);
            new Still(x).due("loosen(" + place + ") again", x.loosen(place), FoldedWays.STATE);
        }
    }
}
