/** How MARKS are drawn is told by TermsMarks; here, what mark() tells and refuses. */
@Section("Promise 7: mark")
public final class Promise07MarkTest {
    private static final String EIGHT = "6,01,12,23,34,45,50,02,31";

    public static void main(String[] args) {
        Sentences.run(Promise07MarkTest.class);
    }

    @Holds("The MARK of a LINK in a VARIANT, as bits.")
    static void ofEachLinkInEachVariant() {
        FoldedWays x = Check.withNet("3,01,12");
        for (int variant = 0; variant < 3; variant++) {
            for (int link = 0; link < 4; link++) {
                new Still(x).due("mark(" + link + ", " + variant + ")", x.mark(link, variant),
                        Draws.mark(link, variant, 4, 3, 16));
            }
        }
    }

    @Holds("The MARK of a LINK in a VARIANT, as bits.")
    static void ofTheGreatestLink() {
        FoldedWays x = Check.withNet(EIGHT, 8, 1, 1);
        for (int variant = 0; variant < 3; variant++) {
            Check.due("mark(0, " + variant + ")", x.mark(0, variant), Draws.mark(0, variant, 16, 1, 8));
            Check.due("mark(15, " + variant + ")", x.mark(15, variant), Draws.mark(15, variant, 16, 1, 8));
        }
    }

    @Holds("The MARK of a LINK in a VARIANT, as bits.")
    static void theGreatestBit() {
        FoldedWays x = Check.withNet("2,01", 40, 1, 29);
        Check.due("SEED 29 draws 29559, by 40 its rest is 39", x.mark(0, 0), 1L << 39);
    }

    @Holds("UNKNOWN: link")
    static void linkTooSmall() {
        FoldedWays x = Check.withNet("3,01,12");
        int[] no = {-1, -2, -4, Integer.MIN_VALUE};
        for (int link : no) {
            new Still(x).due("mark(" + link + ", 0)", x.mark(link, 0), FoldedWays.UNKNOWN);
        }
    }

    @Holds("UNKNOWN: link")
    static void linkTooLarge() {
        for (int pairs = 1; pairs <= 8; pairs++) {
            FoldedWays x = Check.withNet(EIGHT.substring(0, 1 + 3 * pairs));
            Check.due("the greatest LINK", x.mark(2 * pairs - 1, 0) > 0);
            int[] no = {2 * pairs, 2 * pairs + 1, 16, 17, 20, 60, Integer.MAX_VALUE};
            for (int link : no) {
                Check.due("mark(" + link + ", 2)", x.mark(link, 2), FoldedWays.UNKNOWN);
            }
        }
    }

    @Holds("UNKNOWN: link")
    static void noLinkIsThereWithoutANet() {
        FoldedWays x = new FoldedWays();
        Check.due("mark(0, 0)", x.mark(0, 0), FoldedWays.UNKNOWN);
        Check.due("mark(0, 3)", x.mark(0, 3), FoldedWays.UNKNOWN);
    }

    @Holds("OUTSIDE: variant (0 to 2).")
    static void variantTooSmallOrTooLarge() {
        FoldedWays x = Check.withNet("3,01,12");
        for (int variant : Check.outside(0, 2)) {
            new Still(x).due("mark(3, " + variant + ")", x.mark(3, variant), FoldedWays.OUTSIDE);
        }
    }

    @Holds({"UNKNOWN: link", "OUTSIDE: variant (0 to 2)."})
    static void unknownIsToldAheadOfOutside() {
        FoldedWays x = Check.withNet("3,01,12");
        for (int variant : Check.outside(0, 2)) {
            Check.due("mark(4, " + variant + ")", x.mark(4, variant), FoldedWays.UNKNOWN);
            Check.due("mark(-1, " + variant + ")", x.mark(-1, variant), FoldedWays.UNKNOWN);
        }
    }
}
