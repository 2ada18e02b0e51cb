import java.util.ArrayList;
import java.util.List;

@Section("Promise 19: digest")
public final class Promise19DigestTest {
    private static final String EIGHT = "6,01,12,23,34,45,50,02,31";

    public static void main(String[] args) {
        Sentences.run(Promise19DigestTest.class);
    }

    private static long[] counts(FoldedWays x) {
        long[] counts = new long[12];
        for (int what = 0; what < 12; what++) {
            counts[what] = x.count(what);
        }
        return counts;
    }

    /** The numbers that the other calls tell, in the document's order. */
    private static long byCalls(FoldedWays x, String page) {
        List<Long> numbers = new ArrayList<>();
        for (int link = 0; link < x.count(1); link++) {
            for (int number = 0; number < 6; number++) {
                numbers.add(number < 3 ? (long) x.link(link, number) : x.mark(link, number - 3));
            }
        }
        for (int place = 0; place < 4; place++) {
            if (x.bound(place, 0) != FoldedWays.UNKNOWN) {
                numbers.add((long) place);
                for (int variant = 0; variant < 3; variant++) {
                    numbers.add(x.bound(place, variant));
                }
            }
        }
        int all = (1 << x.count(0)) - 1;
        for (int node = 0; node < x.count(0); node++) {
            numbers.add((long) x.tree(node, all));
            for (int number = 0; number < 27; number++) {
                numbers.add((long) x.spread(node, all, number / 9, false, number % 9));
            }
            numbers.add((long) x.best(node, all, false));
            numbers.add((long) x.best(node, all, true));
        }
        page.chars().forEach(code -> numbers.add((long) code));
        for (long count : counts(x)) {
            numbers.add(count);
        }
        return Check.digestOf(numbers.stream().mapToLong(Long::longValue).toArray());
    }

    @Holds({"h is 1693, then for each of these numbers, in order, 31 times h, and it", "what count() tells for 0 to 11."})
    static void ofANewObject() {
        Check.due("digest()", new FoldedWays().digest(), Check.digestOf(0, 0, 0, 16, 3, 1, 0, 0, 0, 0, 0, 0));
    }

    @Holds("(as longs, wrapping)")
    static void itWraps() {
        FoldedWays x = Check.withPage("~~~~~~~~~~~~~~~~~~~~~~~~~");
        Check.due("of a full PAGE", x.digest(), byCalls(x, "~~~~~~~~~~~~~~~~~~~~~~~~~"));
        FoldedWays below = null;
        for (int many = 0; many < 26 && below == null; many++) {
            FoldedWays y = Check.withPage("~~~~~~~~~~~~~~~~~~~~~~~~~".substring(0, many));
            below = y.digest() < 0 ? y : null;
        }
        Check.due("it comes below 0", below != null);
    }

    @Holds({"of each LINK link() for 0 to 2, mark() for 0 to 2", "of each NODE, for all NODES, tree(), of each VARIANT "
            + "spread() (not bound) for 0 to 8, then best(), not bound and bound"})
    static void ofLeastAndGreatestNets() {
        FoldedWays least = Check.withNet("2,01");
        Check.due("digest() of two NODES", least.digest(), byCalls(least, ""));
        FoldedWays most = Check.withNet(EIGHT);
        Check.due("digest() of eight pairs", most.digest(), byCalls(most, ""));
        FoldedWays parts = Check.withNet("5,01,34", 40, 4, 0);
        Check.due("digest() of parts", parts.digest(), byCalls(parts, ""));
    }

    @Holds("of each LINK link() for 0 to 2, mark() for 0 to 2")
    static void linksInTheirOrder() {
        // all numbers by hand: LINKS of one bit each, see Draws
        FoldedWays x = Check.withNet("2,10", 8, 1, 1);
        int[][] bit = {{6, 6}, {2, 3}, {4, 4}};
        long[] numbers = new long[12 + 60 + 12];
        for (int link = 0; link < 2; link++) {
            numbers[6 * link] = 1 - link;
            numbers[6 * link + 1] = link;
            numbers[6 * link + 2] = 0;
            for (int variant = 0; variant < 3; variant++) {
                numbers[6 * link + 3 + variant] = 1L << bit[variant][link];
            }
        }
        for (int node = 0; node < 2; node++) {
            int at = 12 + 30 * node;
            numbers[at] = 2 - node;
            for (int variant = 0; variant < 3; variant++) {
                // where both LINKS have one bit the way back MATCHES, too
                boolean isBack = bit[variant][0] == bit[variant][1];
                long[] facts = {1, isBack ? 2 : 1, isBack ? 1 : 0, isBack ? 1 : 0, 2, 3, 1, 8, isBack ? 1 : 0};
                System.arraycopy(facts, 0, numbers, at + 1 + 9 * variant, 9);
            }
            numbers[at + 28] = 1;
            numbers[at + 29] = 1;
        }
        long[] counts = {2, 2, 0, 8, 1, 1, 0, 1, 0, 0, 0, 0};
        System.arraycopy(counts, 0, numbers, 72, 12);
        Check.due("digest()", x.digest(), Check.digestOf(numbers));
    }

    @Holds("of each BUNDLE that is there its place, bound() for 0 to 2")
    static void bundlesThatAreThere() {
        FoldedWays x = Check.withNet("3,01,12");
        x.bind(3, 0, 2);
        Check.due("one, at the last place", x.digest(), byCalls(x, ""));
        x.bind(0, 0, 4);
        Check.due("two", x.digest(), byCalls(x, ""));
        x.loosen(3);
        Check.due("one, at the first place", x.digest(), byCalls(x, ""));
    }

    @Holds("of each BUNDLE that is there its place, bound() for 0 to 2")
    static void allFourBundles() {
        FoldedWays x = Check.withNet(EIGHT);
        for (int place = 3; place >= 0; place--) {
            x.bind(place, place, 63);
        }
        Check.due("digest()", x.digest(), byCalls(x, ""));
    }

    @Holds("then best(), not bound and bound")
    static void bestNotBoundAndBoundAreUnlike() {
        FoldedWays x = Small.withSeed(12);
        x.bind(0, 0, 4);
        Check.due("they are unlike", x.best(0, 7, false) != x.best(0, 7, true));
        Check.due("digest()", x.digest(), byCalls(x, ""));
    }

    @Holds("each letter of THE PAGE by its code")
    static void lettersOfThePage() {
        FoldedWays x = Check.withNet("3,01,12");
        Check.type(x, " ~4,");
        Check.due("four letters", x.digest(), byCalls(x, " ~4,"));
        x.blank();
        Check.due("none", x.digest(), byCalls(x, ""));
    }

    @Holds("what count() tells for 0 to 11.")
    static void countsAtLast() {
        FoldedWays x = Small.net();
        x.bind(0, 0, 4);
        x.send(0, 2, false);
        x.set(2, Integer.MAX_VALUE);
        Check.due("digest()", x.digest(), byCalls(x, ""));
        FoldedWays y = new FoldedWays();
        y.set(0, 40);
        y.set(1, 4);
        y.set(2, 0);
        Check.due("counts alone", y.digest(), Check.digestOf(counts(y)));
    }

    @Holds("h is 1693, then for each of these numbers, in order, 31 times h, and it")
    static void askingChangesNothing() {
        FoldedWays x = Check.withNet(EIGHT);
        x.bind(1, 0, 63);
        x.send(0, 63, true);
        long told = x.digest();
        Check.due("again", x.digest(), told);
        Check.due("as by the calls", told, byCalls(x, ""));
    }
}
