@Section("Promise 6: set")
public final class Promise06SetTest {
    private static final int WIDTH = 0;
    private static final int DRAWN = 1;
    private static final int SEED = 2;

    public static void main(String[] args) {
        Sentences.run(Promise06SetTest.class);
    }

    /** Sets one after the other; each call tells what was there ahead of it. */
    private static void become(int what, int first, int... values) {
        FoldedWays x = Check.withNet("3,01,12");
        int was = first;
        for (int v : values) {
            Check.due("set(" + what + ", " + v + ")", x.set(what, v), was);
            Check.due("count(" + (3 + what) + ")", x.count(3 + what), v);
            was = v;
        }
        int[] others = {16, 3, 1};
        others[what] = was;
        for (int other = 0; other < 3; other++) {
            Check.due("count(" + (3 + other) + ") at last", x.count(3 + other), others[other]);
        }
    }

    private static void refused(int what, int... values) {
        FoldedWays x = Check.withNet("3,01,12");
        Still still = new Still(x);
        for (int v : values) {
            still.due("set(" + what + ", " + v + ")", x.set(what, v), FoldedWays.OUTSIDE);
        }
    }

    @Holds("WIDTH (what = 0), DRAWN (1), SEED (2) becomes v: what it was.")
    static void widthFromLeastToMost() {
        become(WIDTH, 16, 8, 40, 9, 39, 39, 16);
    }

    @Holds("WIDTH (what = 0), DRAWN (1), SEED (2) becomes v: what it was.")
    static void drawnFromLeastToMost() {
        become(DRAWN, 3, 1, 4, 2, 2, 3);
    }

    @Holds("WIDTH (what = 0), DRAWN (1), SEED (2) becomes v: what it was.")
    static void seedFromLeastToMost() {
        become(SEED, 1, 0, Integer.MAX_VALUE, Integer.MAX_VALUE - 1, 8, 8, 1);
    }

    @Holds("WIDTH (what = 0), DRAWN (1), SEED (2) becomes v: what it was.")
    static void withoutANet() {
        FoldedWays x = new FoldedWays();
        Check.due("set(0, 40)", x.set(WIDTH, 40), 16);
        Check.due("set(1, 4)", x.set(DRAWN, 4), 3);
        Check.due("set(2, 0)", x.set(SEED, 0), 1);
        Check.due("digest()", x.digest(), Check.digestOf(0, 0, 0, 40, 4, 0, 0, 0, 0, 0, 0, 0));
    }

    @Holds("WIDTH (what = 0), DRAWN (1), SEED (2) becomes v: what it was.")
    static void bundlesAndPageStay() {
        FoldedWays x = Check.withNet("3,01,12");
        x.bind(1, 0, 4);
        x.letter('5');
        x.set(WIDTH, 40);
        x.set(DRAWN, 1);
        x.set(SEED, 77);
        Check.due("letters", x.count(2), 1);
        Check.due("BUNDLES", x.count(6), 1);
        Check.due("loosen(1)", x.loosen(1), 5);
    }

    @Holds("OUTSIDE: what, v.")
    static void whatTooSmallOrTooLarge() {
        for (int what : Check.outside(0, 2)) {
            refused(what, 1, 8, 0, -1, 40, what);
        }
    }

    @Holds("OUTSIDE: what, v.")
    static void widthTooSmall() {
        refused(WIDTH, 7, 6, 1, 0, -1, -8, Integer.MIN_VALUE);
    }

    @Holds("OUTSIDE: what, v.")
    static void widthTooLarge() {
        refused(WIDTH, 41, 42, 64, 256 + 8, Integer.MAX_VALUE);
    }

    @Holds("OUTSIDE: what, v.")
    static void drawnTooSmall() {
        refused(DRAWN, 0, -1, -4, Integer.MIN_VALUE);
    }

    @Holds("OUTSIDE: what, v.")
    static void drawnTooLarge() {
        refused(DRAWN, 5, 8, 16, 256 + 1, Integer.MAX_VALUE);
    }

    @Holds("OUTSIDE: what, v.")
    static void seedTooSmall() {
        refused(SEED, -1, -2, Integer.MIN_VALUE + 1, Integer.MIN_VALUE);
    }
}
