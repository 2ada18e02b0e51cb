/**
 * Promises 14 to 17: fold, spread, best, send.
 *
 * The small NET is "3,01,12" with WIDTH 8, DRAWN 1, SEED 1, so every MARK is one bit:
 * LINKS 0 to 3 (0-1, 1-0, 1-2, 2-1) have 6 6 1 3, then 4 6 5 7, then 1 7 1 6 in the three VARIANTS,
 * BUNDLES 0 to 3 have 3 3 2 3, then 4 4 1 7, then 6 2 7 7.
 */
public final class FoldingTest {
    public static void main(String[] args) {
        folds();
        boundFolds();
        spreads();
        matchesByBundle();
        loopsInOneStep();
        mostSteps();
        odds();
        bests();
        sends();
        refusals();
        Check.end();
    }

    private static FoldedWays small() {
        FoldedWays x = Check.withNet("3,01,12");
        x.set(0, 8);
        x.set(1, 1);
        return x;
    }

    private static void folds() {
        FoldedWays x = small();
        long[][] want = {{64, 66, 0, 2, 72}, {16, 48, 0, 32, 192}, {2, 2, 0, 2, 192}};
        for (int variant = 0; variant < 3; variant++) {
            for (int round = 0; round < 2; round++) {
                boolean isBound = round == 1;
                String at = " in VARIANT " + variant + ", bound: " + isBound;
                Check.due("fold(0, 2)" + at, x.fold(0, 2, variant, isBound), want[variant][0]);
                Check.due("fold(0, 4)" + at, x.fold(0, 4, variant, isBound), want[variant][1]);
                Check.due("fold(0, 1)" + at, x.fold(0, 1, variant, isBound), want[variant][2]);
                Check.due("fold(1, 4)" + at, x.fold(1, 4, variant, isBound), want[variant][3]);
                Check.due("fold(2, 7)" + at, x.fold(2, 7, variant, isBound), want[variant][4]);
            }
        }
        FoldedWays wide = Check.withNet("2,01");
        wide.set(0, 40);
        wide.set(1, 1);
        wide.set(2, 29);
        Check.due("the greatest bit: SEED 29 draws 29559, by 40 its rest is 39", wide.fold(0, 2, 0, false), 1L << 39);
    }

    private static void boundFolds() {
        FoldedWays x = small();
        Check.due("bind(0): LINKS 0 and 2", x.bind(0, 0, 4), 2);
        long[] whole = {8, 16, 64};
        long[] apart = {66, 48, 2};
        long[] part = {64, 16, 2};
        for (int variant = 0; variant < 3; variant++) {
            Check.due("bound", x.fold(0, 4, variant, true), whole[variant]);
            Check.due("not bound", x.fold(0, 4, variant, false), apart[variant]);
            Check.due("not all of its LINKS", x.fold(0, 2, variant, true), part[variant]);
            Check.due("empty", x.fold(0, 0, variant, true), 0);
        }
        Check.due("bind(1): LINK 0", x.bind(1, 0, 2), 1);
        long[] both = {8, 16, 64 | 4};
        long[] second = {8, 16, 4};
        for (int variant = 0; variant < 3; variant++) {
            Check.due("BUNDLES that share a LINK", x.fold(0, 4, variant, true), both[variant]);
            Check.due("the second BUNDLE alone", x.fold(0, 2, variant, true), second[variant]);
        }
        x.loosen(0);
        long[] beside = {8 | 2, 16 | 32, 4 | 2};
        for (int variant = 0; variant < 3; variant++) {
            Check.due("BUNDLE and a LINK beside it", x.fold(0, 4, variant, true), beside[variant]);
        }
    }

    private static void spread(FoldedWays x, int from, int nodes, int variant, boolean isBound, int... want) {
        for (int what = 0; what < want.length; what++) {
            Check.due("spread(" + from + ", " + nodes + ", " + variant + ", " + isBound + ", " + what + ")",
                    x.spread(from, nodes, variant, isBound, what), want[what]);
        }
    }

    private static void spreads() {
        FoldedWays x = small();
        spread(x, 0, 2, 0, false, 1, 2, 1, 1, 2, 3, 1, 8, 1);
        spread(x, 0, 2, 1, false, 1, 1, 0, 0, 2, 3, 1, 8, 0);
        spread(x, 0, 2, 2, false, 1, 2, 1, 0, 3, 7, 1, 8, 1);
        spread(x, 0, 4, 0, false, 2, 3, 1, 1, 3, 7, 1, 4, 1);
        spread(x, 0, 4, 1, false, 2, 2, 0, 0, 3, 7, 1, 4, 0);
        spread(x, 0, 4, 2, false, 1, 2, 0, 0, 3, 7, 1, 8, 0);
        spread(x, 0, 0, 0, false, 0, 0, 0, 0, 1, 1, 0, 1, 0);
        spread(x, 1, 2, 0, true, 0, 0, 0, 0, 1, 2, 0, 1, 0);
        // the LINK that MATCHES beside the TREE lies where nothing comes: it is told by 8 alone
        spread(x, 1, 4, 2, false, 1, 1, 0, 0, 2, 6, 1, 8, 1);
    }

    private static void matchesByBundle() {
        FoldedWays x = small();
        x.bind(0, 0, 4);
        spread(x, 0, 4, 0, true, 1, 3, 1, 1, 3, 7, 1, 8, 1);
        spread(x, 0, 4, 1, true, 1, 2, 0, 0, 3, 7, 1, 8, 0);
        spread(x, 0, 4, 2, true, 1, 3, 1, 1, 3, 7, 1, 8, 1);
        // BUNDLES match where the FOLD is not a bound one, too
        spread(x, 0, 2, 1, false, 1, 2, 1, 0, 3, 7, 1, 8, 1);
        spread(x, 0, 2, 1, true, 1, 2, 1, 0, 3, 7, 1, 8, 1);
        x.loosen(0);
        spread(x, 0, 2, 1, false, 1, 1, 0, 0, 2, 3, 1, 8, 0);
    }

    /** Where two NODES reach a third in one STEP, one of the two PASSAGES is a LOOP. */
    private static void loopsInOneStep() {
        FoldedWays x = Check.withNet("4,01,02,13,23");
        x.set(0, 8);
        x.set(1, 4);
        boolean isSeen = false;
        for (int seed = 0; seed < 400 && !isSeen; seed++) {
            x.set(2, seed);
            isSeen = x.spread(0, 8, 0, false, 8) == 2 && x.spread(0, 8, 0, false, 1) == 4
                    && (x.mark(2, 0) & ~x.fold(0, 8, 0, false)) == 0
                    && (x.mark(6, 0) & ~x.fold(0, 8, 0, false)) == 0;
        }
        Check.due("a SEED with LINKS 0, 2, 4, 6 alone", isSeen);
        spread(x, 0, 8, 0, false, Long.bitCount(x.fold(0, 8, 0, false)), 4, 2, 1, 3, 15);
    }

    /** On a line a NODE is REACHED only from the one ahead of it, whatever else MATCHES. */
    private static void mostSteps() {
        FoldedWays x = Check.withNet("6,01,12,23,34,45");
        for (int variant = 0; variant < 3; variant++) {
            Check.due("STEPS from end to end", x.spread(0, 32, variant, false, 4), 6);
            Check.due("all are REACHED", x.spread(0, 32, variant, false, 5), 63);
            Check.due("STEPS back", x.spread(5, 1, variant, false, 4), 6);
        }
    }

    private static void odds() {
        FoldedWays x = small();
        Check.due("1 of 8", x.spread(0, 2, 0, false, 6), 1);
        Check.due("1 of 8", x.spread(0, 2, 0, false, 7), 8);
        FoldedWays line = Check.withNet("6,01,12,23,34,45");
        line.set(0, 40);
        line.set(1, 4);
        for (int variant = 0; variant < 3; variant++) {
            for (int nodes = 0; nodes < 64; nodes++) {
                oddsAsDue(line, nodes, variant, 40, 4);
            }
        }
        line.set(0, 9);
        line.set(1, 2);
        for (int nodes = 0; nodes < 64; nodes++) {
            oddsAsDue(line, nodes, 0, 9, 2);
        }
        line.set(0, 8);
        line.set(1, 4);
        Check.due("7 of 8, above", line.spread(0, 63, 0, false, 6), 7 * 7 * 7 * 7);
        Check.due("7 of 8, below", line.spread(0, 63, 0, false, 7), 8 * 8 * 8 * 8);
        line.set(2, 2);
        Check.due("all bits", line.fold(0, 63, 0, false), 255);
        Check.due("all bits, above", line.spread(0, 63, 0, false, 6), 1);
        Check.due("all bits, below", line.spread(0, 63, 0, false, 7), 1);
    }

    private static void oddsAsDue(FoldedWays x, int nodes, int variant, int width, int drawn) {
        long above = 1;
        long below = 1;
        for (int i = 0; i < drawn; i++) {
            above *= Long.bitCount(x.fold(0, nodes, variant, false));
            below *= width;
        }
        long divisor = java.math.BigInteger.valueOf(above).gcd(java.math.BigInteger.valueOf(below)).longValue();
        Check.due("above of " + nodes, x.spread(0, nodes, variant, false, 6), above / divisor);
        Check.due("below of " + nodes, x.spread(0, nodes, variant, false, 7), below / divisor);
    }

    private static void bests() {
        FoldedWays x = small();
        Check.due("fewest ASTRAY", x.best(0, 2, false), 1);
        Check.due("of like ones the fewest bits", x.best(0, 4, false), 2);
        Check.due("then the least", x.best(0, 0, false), 0);
        Check.due("then the least, bound", x.best(0, 1, true), 0);
        x.bind(0, 0, 4);
        Check.due("bound: fewest ASTRAY", x.best(0, 4, true), 1);
        // all three have one ASTRAY and one bit: VARIANT 1 matches by the BUNDLE
        Check.due("all alike", x.best(0, 2, false), 0);
    }

    private static void counts(FoldedWays x, int sent, int passages, int astray, int loops) {
        Check.due("count(8)", x.count(8), sent);
        Check.due("count(9)", x.count(9), passages);
        Check.due("count(10)", x.count(10), astray);
        Check.due("count(11)", x.count(11), loops);
    }

    private static void sends() {
        FoldedWays x = small();
        Check.due("send(0, 2): VARIANT 1", x.send(0, 2, false), 0);
        counts(x, 1, 1, 0, 0);
        Check.due("send(0, 4): VARIANT 2", x.send(0, 4, false), 0);
        counts(x, 2, 3, 0, 0);
        Check.due("send of nothing", x.send(0, 0, true), 0);
        counts(x, 3, 3, 0, 0);
        x.bind(0, 0, 4);
        Check.due("send(0, 2): VARIANT 0", x.send(0, 2, false), 1);
        counts(x, 4, 5, 1, 1);
        Check.due("send(0, 4) bound: VARIANT 1", x.send(0, 4, true), 0);
        counts(x, 5, 7, 1, 1);
        x.spread(0, 2, 0, false, 1);
        x.best(0, 2, false);
        x.fold(0, 2, 0, false);
        counts(x, 5, 7, 1, 1);
        Check.type(x, "2,01");
        x.net();
        counts(x, 5, 7, 1, 1);
    }

    private static void refusals() {
        FoldedWays x = small();
        long before = x.digest();
        int[] noNodes = {-1, 3, 6, Integer.MIN_VALUE, Integer.MAX_VALUE};
        for (int from : noNodes) {
            Check.due("fold of " + from, x.fold(from, 1, 0, false), FoldedWays.UNKNOWN);
            Check.due("fold of " + from, x.fold(from, 8, 3, true), FoldedWays.UNKNOWN);
            Check.due("spread of " + from, x.spread(from, 1, 0, false, 0), FoldedWays.UNKNOWN);
            Check.due("spread of " + from, x.spread(from, 8, 3, true, 9), FoldedWays.UNKNOWN);
            Check.due("best of " + from, x.best(from, 8, false), FoldedWays.UNKNOWN);
            Check.refused(x, before, "send of " + from, x.send(from, 8, false), FoldedWays.UNKNOWN);
        }
        int[] noSets = {-1, 8, 16, Integer.MIN_VALUE, Integer.MAX_VALUE};
        for (int nodes : noSets) {
            Check.due("fold to " + nodes, x.fold(0, nodes, 0, false), FoldedWays.OUTSIDE);
            Check.due("spread to " + nodes, x.spread(0, nodes, 0, true, 0), FoldedWays.OUTSIDE);
            Check.due("best to " + nodes, x.best(0, nodes, true), FoldedWays.OUTSIDE);
            Check.refused(x, before, "send to " + nodes, x.send(0, nodes, true), FoldedWays.OUTSIDE);
        }
        int[] no = {-1, 3, Integer.MIN_VALUE, Integer.MAX_VALUE};
        for (int variant : no) {
            Check.due("fold in " + variant, x.fold(0, 1, variant, false), FoldedWays.OUTSIDE);
            Check.due("spread in " + variant, x.spread(0, 1, variant, true, 0), FoldedWays.OUTSIDE);
        }
        int[] noWhats = {-1, 9, Integer.MIN_VALUE, Integer.MAX_VALUE};
        for (int what : noWhats) {
            Check.due("spread, " + what, x.spread(0, 1, 0, true, what), FoldedWays.OUTSIDE);
        }
        Check.due("nothing changed", x.digest(), before);
    }
}
