@Section("Promise 13: bound")
public final class Promise13BoundTest {
    public static void main(String[] args) {
        Sentences.run(Promise13BoundTest.class);
    }

    @Holds("The MARK of a BUNDLE in a VARIANT, as bits.")
    static void ofEachPlaceInEachVariant() {
        FoldedWays x = Check.withNet("3,01,12");
        for (int place = 0; place < 4; place++) {
            x.bind(place, 0, 4);
            for (int variant = 0; variant < 3; variant++) {
                new Still(x).due("bound(" + place + ", " + variant + ")", x.bound(place, variant),
                        Draws.mark(4 + place, variant, 4, 3, 16));
            }
        }
    }

    @Holds("The MARK of a BUNDLE in a VARIANT, as bits.")
    static void itIsOfThePlaceNotOfItsLinks() {
        FoldedWays x = Check.withNet("3,01,12");
        x.bind(2, 0, 4);
        long mark = x.bound(2, 1);
        x.loosen(2);
        x.bind(2, 2, 1);
        Check.due("with other LINKS", x.bound(2, 1), mark);
    }

    @Holds("UNKNOWN: place (there is none, too)")
    static void placeTooSmallOrTooLarge() {
        FoldedWays x = Check.withNet("3,01,12");
        for (int place = 0; place < 4; place++) {
            x.bind(place, 0, 4);
        }
        for (int place : Check.outside(0, 3)) {
            new Still(x).due("bound(" + place + ", 0)", x.bound(place, 0), FoldedWays.UNKNOWN);
        }
    }

    @Holds("UNKNOWN: place (there is none, too)")
    static void noneIsThere() {
        FoldedWays x = Check.withNet("3,01,12");
        x.bind(1, 0, 4);
        int[] none = {0, 2, 3};
        for (int place : none) {
            for (int variant = 0; variant < 3; variant++) {
                Check.due("bound(" + place + ", " + variant + ")", x.bound(place, variant), FoldedWays.UNKNOWN);
            }
        }
        x.loosen(1);
        Check.due("loosened", x.bound(1, 0), FoldedWays.UNKNOWN);
        Check.due("without a NET", new FoldedWays().bound(0, 0), FoldedWays.UNKNOWN);
    }

    @Holds("OUTSIDE: variant.")
    static void variantTooSmallOrTooLarge() {
        FoldedWays x = Check.withNet("3,01,12");
        x.bind(3, 0, 4);
        for (int variant : Check.outside(0, 2)) {
            new Still(x).due("bound(3, " + variant + ")", x.bound(3, variant), FoldedWays.OUTSIDE);
        }
    }

    @Holds({"UNKNOWN: place (there is none, too)", "OUTSIDE: variant."})
    static void unknownIsToldAheadOfOutside() {
        FoldedWays x = Check.withNet("3,01,12");
        x.bind(3, 0, 4);
        for (int variant : Check.outside(0, 2)) {
            Check.due("no place, " + variant, x.bound(4, variant), FoldedWays.UNKNOWN);
            Check.due("no place, " + variant, x.bound(-1, variant), FoldedWays.UNKNOWN);
            Check.due("none there, " + variant, x.bound(0, variant), FoldedWays.UNKNOWN);
        }
    }
}
