@Section("Promise 1: A new object")
public final class Promise01NewObjectTest {
    public static void main(String[] args) {
        Sentences.run(Promise01NewObjectTest.class);
    }

    @Holds("No NET, no BUNDLES.")
    static void itHasNoNet() {
        FoldedWays x = new FoldedWays();
        Check.due("NODES", x.count(0), 0);
        Check.due("LINKS", x.count(1), 0);
        Check.due("NETS read", x.count(7), 0);
        Check.due("mark(0, 0)", x.mark(0, 0), FoldedWays.UNKNOWN);
        Check.due("link(0, 0)", x.link(0, 0), FoldedWays.UNKNOWN);
        Check.due("way(0, 0, 0)", x.way(0, 0, 0), FoldedWays.UNKNOWN);
        Check.due("tree(0, 0)", x.tree(0, 0), FoldedWays.UNKNOWN);
        Check.due("bind(0, 0, 0)", x.bind(0, 0, 0), FoldedWays.UNKNOWN);
        Check.due("fold(0, 0, 0, true)", x.fold(0, 0, 0, true), FoldedWays.UNKNOWN);
        Check.due("spread(0, 0, 0, true, 0)", x.spread(0, 0, 0, true, 0), FoldedWays.UNKNOWN);
        Check.due("best(0, 0, true)", x.best(0, 0, true), FoldedWays.UNKNOWN);
        Check.due("send(0, 0, true)", x.send(0, 0, true), FoldedWays.UNKNOWN);
    }

    @Holds("No NET, no BUNDLES.")
    static void itHasNoBundles() {
        FoldedWays x = new FoldedWays();
        Check.due("BUNDLES", x.count(6), 0);
        for (int place = 0; place < 4; place++) {
            Check.due("loosen(" + place + ")", x.loosen(place), FoldedWays.STATE);
            Check.due("bound(" + place + ", 0)", x.bound(place, 0), FoldedWays.UNKNOWN);
        }
    }

    @Holds("No NET, no BUNDLES.")
    static void nothingWasWrittenOrCounted() {
        FoldedWays x = new FoldedWays();
        int[] want = {0, 0, 0, 16, 3, 1, 0, 0, 0, 0, 0, 0};
        for (int what = 0; what < want.length; what++) {
            Check.due("count(" + what + ")", x.count(what), want[what]);
        }
        Check.due("fault()", x.fault(), 0);
        Check.due("net()", x.net(), FoldedWays.STATE);
        Check.due("blank()", x.blank(), 0);
    }

    @Holds("No NET, no BUNDLES.")
    static void oneObjectKnowsNothingOfAnother() {
        FoldedWays other = Check.withNet("3,01,12", 8, 1, 7);
        other.bind(0, 0, 4);
        other.send(0, 4, true);
        other.letter('x');
        FoldedWays x = new FoldedWays();
        Check.due("digest()", x.digest(), Check.digestOf(0, 0, 0, 16, 3, 1, 0, 0, 0, 0, 0, 0));
        x.letter('y');
        x.blank();
        Check.due("the other one's letters", other.count(2), 1);
    }
}
