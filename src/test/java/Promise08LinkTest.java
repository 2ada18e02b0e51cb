@Section("Promise 8: link")
public final class Promise08LinkTest {
    private static final String EIGHT = "6,01,12,23,34,45,50,02,31";

    public static void main(String[] args) {
        Sentences.run(Promise08LinkTest.class);
    }

    @Holds("Of a LINK: what = 0 from which NODE, 1 to which")
    static void itsEnds() {
        FoldedWays x = Check.withNet(EIGHT);
        for (int pair = 0; pair < 8; pair++) {
            int one = EIGHT.charAt(2 + 3 * pair) - '0';
            int other = EIGHT.charAt(3 + 3 * pair) - '0';
            Check.due("link(" + 2 * pair + ", 0)", x.link(2 * pair, 0), one);
            Check.due("link(" + 2 * pair + ", 1)", x.link(2 * pair, 1), other);
            Check.due("back: link(" + (2 * pair + 1) + ", 0)", x.link(2 * pair + 1, 0), other);
            Check.due("back: link(" + (2 * pair + 1) + ", 1)", x.link(2 * pair + 1, 1), one);
        }
    }

    @Holds("2 in which BUNDLES it is, as bits.")
    static void inNoBundle() {
        FoldedWays x = Check.withNet(EIGHT);
        for (int link = 0; link < 16; link++) {
            Check.due("link(" + link + ", 2)", x.link(link, 2), 0);
        }
    }

    @Holds("2 in which BUNDLES it is, as bits.")
    static void inSomeBundles() {
        FoldedWays x = Check.withNet("6,50,12,43");
        x.bind(3, 5, 1);
        x.bind(1, 5, 33);
        x.bind(0, 1, 4);
        int[] in = {2 | 8, 0, 1, 0, 0, 0};
        for (int link = 0; link < in.length; link++) {
            new Still(x).due("link(" + link + ", 2)", x.link(link, 2), in[link]);
        }
        x.loosen(3);
        Check.due("one is gone", x.link(0, 2), 2);
    }

    @Holds("2 in which BUNDLES it is, as bits.")
    static void inAllFourBundles() {
        FoldedWays x = Check.withNet("6,01,02,03,04,05,12,34,35");
        for (int place = 0; place < 4; place++) {
            Check.due("bind(" + place + ")", x.bind(place, 5, 8), 1);
        }
        Check.due("the greatest LINK", x.link(15, 2), 15);
        Check.due("the LINK back", x.link(14, 2), 0);
        Check.due("the least LINK", x.link(0, 2), 0);
    }

    @Holds("UNKNOWN: link")
    static void linkTooSmallOrTooLarge() {
        FoldedWays x = Check.withNet("3,01,12");
        for (int link : Check.outside(0, 3)) {
            for (int what = 0; what < 3; what++) {
                new Still(x).due("link(" + link + ", " + what + ")", x.link(link, what), FoldedWays.UNKNOWN);
            }
        }
        Check.due("link(16, 0) of 16", Check.withNet(EIGHT).link(16, 0), FoldedWays.UNKNOWN);
        Check.due("link(0, 2) without a NET", new FoldedWays().link(0, 2), FoldedWays.UNKNOWN);
    }

    @Holds("OUTSIDE: what.")
    static void whatTooSmallOrTooLarge() {
        FoldedWays x = Check.withNet("3,01,12");
        for (int what : Check.outside(0, 2)) {
            new Still(x).due("link(3, " + what + ")", x.link(3, what), FoldedWays.OUTSIDE);
        }
    }

    @Holds({"UNKNOWN: link", "OUTSIDE: what."})
    static void unknownIsToldAheadOfOutside() {
        FoldedWays x = Check.withNet("3,01,12");
        for (int what : Check.outside(0, 2)) {
            Check.due("link(4, " + what + ")", x.link(4, what), FoldedWays.UNKNOWN);
            Check.due("link(-1, " + what + ")", x.link(-1, what), FoldedWays.UNKNOWN);
        }
    }
}
