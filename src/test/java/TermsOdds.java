import java.math.BigInteger;

/** ODDS. */
final class TermsOdds {
    private static final String LINE = "6,01,12,23,34,45";

    private TermsOdds() {
    }

    private static void odds(FoldedWays x, int nodes, int bits, int above, int below) {
        Check.due("bits", x.spread(0, nodes, 0, false, 0), bits);
        Check.due("above of " + bits, x.spread(0, nodes, 0, false, 6), above);
        Check.due("below of " + bits, x.spread(0, nodes, 0, false, 7), below);
    }

    @Holds("ODDS of FOLD: how likely a MARK that is drawn anew has none but bits of it: how many bits it has to the power "
            + "of DRAWN, by WIDTH to the power of DRAWN")
    static void theGreatestNumbers() {
        odds(Check.withNet(LINE, 40, 4, 0), 2, 3, 81, 2560000);
        odds(Check.withNet(LINE, 40, 4, 4), 32, 19, 130321, 2560000);
        odds(Check.withNet(LINE, 39, 4, 28), 32, 19, 130321, 2313441);
    }

    @Holds("ODDS of FOLD: how likely a MARK that is drawn anew has none but bits of it: how many bits it has to the power "
            + "of DRAWN, by WIDTH to the power of DRAWN")
    static void drawnOnce() {
        odds(Check.withNet(LINE, 8, 1, 1), 2, 1, 1, 8);
        odds(Check.withNet(LINE, 40, 1, 0), 8, 3, 3, 40);
    }

    @Holds("in lowest terms")
    static void inLowestTerms() {
        odds(Check.withNet(LINE, 8, 3, 1), 32, 6, 27, 64);
        odds(Check.withNet(LINE, 40, 4, 1), 8, 10, 1, 256);
        odds(Check.withNet(LINE, 40, 4, 2), 32, 15, 81, 4096);
        odds(Check.withNet(LINE, 9, 2, 0), 8, 6, 4, 9);
        odds(Check.withNet(LINE, 9, 2, 0), 16, 7, 49, 81);
    }

    @Holds("in lowest terms")
    static void inLowestTermsByEachWidthAndDrawn() {
        for (int width = 8; width <= 40; width++) {
            for (int drawn = 1; drawn <= 4; drawn++) {
                FoldedWays x = Check.withNet(LINE, width, drawn, width);
                for (int nodes = 2; nodes <= 32; nodes *= 2) {
                    byAnotherMeans(x, nodes, width, drawn);
                }
            }
        }
    }

    private static void byAnotherMeans(FoldedWays x, int nodes, int width, int drawn) {
        for (int variant = 0; variant < 3; variant++) {
            int bits = Long.bitCount(x.fold(0, nodes, variant, false));
            BigInteger above = BigInteger.valueOf(bits).pow(drawn);
            BigInteger below = BigInteger.valueOf(width).pow(drawn);
            BigInteger shared = above.gcd(below);
            String at = " of " + bits + " of " + width + ", DRAWN " + drawn;
            Check.due("above" + at, x.spread(0, nodes, variant, false, 6), above.divide(shared).longValueExact());
            Check.due("below" + at, x.spread(0, nodes, variant, false, 7), below.divide(shared).longValueExact());
        }
    }

    @Holds("in lowest terms")
    static void allBitsAreOneByOne() {
        odds(Check.withNet(LINE, 8, 3, 2), 32, 8, 1, 1);
        odds(Check.withNet(LINE, 9, 2, 27), 32, 9, 1, 1);
    }

    @Holds("what is below above 0 (0 is 0 by 1).")
    static void noBitsAreNoughtByOne() {
        for (int drawn = 1; drawn <= 4; drawn++) {
            odds(Check.withNet(LINE, 8, drawn, 1), 0, 0, 0, 1);
            odds(Check.withNet(LINE, 37, drawn, 1), 1, 0, 0, 1);
            odds(Check.withNet(LINE, 40, drawn, 0), 0, 0, 0, 1);
        }
    }
}
