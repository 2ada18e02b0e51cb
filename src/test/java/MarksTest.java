/** Promises 6 to 8: set, mark, link. */
public final class MarksTest {
    /** What the DRAWS from SEED 1 are ahead of their rest by WIDTH, as the C standard's rand() has them. */
    private static final int[] DRAWS = {16838, 5758, 10113, 17515, 31051, 5627, 23010, 7419, 16212, 4086, 2749,
        12767, 9084, 12060, 32225, 17543, 25089, 21183, 25137, 25566, 26966, 4978, 20495, 10311, 11367, 30054,
        17031, 13145, 19882, 25736, 30524, 28505, 28394, 22102, 24851, 19067, 12754, 11653, 6561, 27096, 13628,
        15188, 32085, 4143, 6967, 31406, 24165, 13403, 25562, 24834, 31353, 920, 10444, 24803, 7962, 19318, 1422,
        31327, 10457, 1945, 14479, 29983, 18751, 3894, 18670, 8259, 16248, 7757, 15629, 13306, 28606, 13990};

    public static void main(String[] args) {
        settings();
        settingsWithoutNet();
        marksBySettings();
        seeds();
        markRefusals();
        links();
        Check.end();
    }

    private static void settings() {
        FoldedWays x = Check.withNet("3,01,12");
        int[][] wrong = {{0, 7}, {0, 41}, {0, 0}, {0, -8}, {0, Integer.MIN_VALUE}, {0, Integer.MAX_VALUE}, {1, 0},
            {1, 5}, {1, -1}, {1, Integer.MAX_VALUE}, {2, -1}, {2, Integer.MIN_VALUE}, {3, 1}, {-1, 8}, {3, 8},
            {Integer.MAX_VALUE, 8}, {Integer.MIN_VALUE, 8}};
        for (int[] pair : wrong) {
            long before = x.digest();
            Check.refused(x, before, "set(" + pair[0] + ", " + pair[1] + ")", x.set(pair[0], pair[1]),
                    FoldedWays.OUTSIDE);
        }
        int[][] right = {{0, 8, 16}, {0, 40, 8}, {1, 1, 3}, {1, 4, 1}, {2, 0, 1}, {2, Integer.MAX_VALUE, 0},
            {2, 1, Integer.MAX_VALUE}, {0, 40, 40}, {1, 2, 4}, {1, 3, 2}, {0, 39, 40}, {0, 9, 39}};
        for (int[] row : right) {
            Check.due("set(" + row[0] + ", " + row[1] + ")", x.set(row[0], row[1]), row[2]);
            Check.due("count behind set", x.count(3 + row[0]), row[1]);
        }
    }

    private static void settingsWithoutNet() {
        FoldedWays x = new FoldedWays();
        Check.due("set(0, 20)", x.set(0, 20), 16);
        Check.due("set(1, 2)", x.set(1, 2), 3);
        Check.due("set(2, 5)", x.set(2, 5), 1);
        Check.type(x, "2,01");
        Check.due("net()", x.net(), 2);
        FoldedWays y = Check.withNet("2,01");
        y.set(2, 5);
        y.set(0, 20);
        y.set(1, 2);
        Check.due("same by which order", x.digest(), y.digest());
    }

    private static long drawn(int first, int times, int width) {
        long bits = 0;
        for (int i = 0; i < times; i++) {
            bits |= 1L << DRAWS[first + i] % width;
        }
        return bits;
    }

    private static void marksBySettings() {
        FoldedWays x = Check.withNet("2,01");
        for (int place = 0; place < 4; place++) {
            Check.due("bind", x.bind(place, place % 2, 3), 1);
        }
        int perVariant = 2 + 4;
        for (int width = 8; width <= 40; width++) {
            x.set(0, width);
            for (int times = 1; times <= 4; times++) {
                x.set(1, times);
                for (int variant = 0; variant < 3; variant++) {
                    int first = variant * perVariant * times;
                    String at = " WIDTH " + width + " DRAWN " + times + " VARIANT " + variant;
                    Check.due("mark(0)" + at, x.mark(0, variant), drawn(first, times, width));
                    Check.due("mark(1)" + at, x.mark(1, variant), drawn(first + times, times, width));
                    for (int place = 0; place < 4; place++) {
                        Check.due("bound(" + place + ")" + at, x.bound(place, variant),
                                drawn(first + (2 + place) * times, times, width));
                    }
                }
            }
        }
    }

    private static void seeds() {
        FoldedWays x = Check.withNet("2,01");
        x.set(1, 1);
        // the DRAW behind SEED s is (1103515245 * s + 12345) % 2^31 / 65536
        x.set(2, 0);
        Check.due("SEED 0: 12345 / 65536 is 0", x.mark(0, 0), 1L << 0);
        x.set(2, 1103527590);
        Check.due("SEED behind 1: the second DRAW of it", x.mark(0, 0), 1L << 5758 % 16);
        x.set(2, Integer.MAX_VALUE);
        Check.due("greatest SEED: 1043980748 / 65536 is 15929", x.mark(0, 0), 1L << 15929 % 16);
        x.set(2, 1);
        Check.due("SEED 1 anew", x.mark(0, 0), 1L << 16838 % 16);
        x.mark(0, 0);
        Check.due("asking draws nothing", x.mark(0, 0), 1L << 16838 % 16);
        Check.due("SEED stays", x.count(5), 1);
    }

    private static void markRefusals() {
        FoldedWays x = Check.withNet("3,01,12");
        int[] noLinks = {-1, 4, 16, 100, Integer.MIN_VALUE, Integer.MAX_VALUE};
        for (int link : noLinks) {
            Check.due("mark(" + link + ", 0)", x.mark(link, 0), FoldedWays.UNKNOWN);
            Check.due("mark(" + link + ", 3)", x.mark(link, 3), FoldedWays.UNKNOWN);
            Check.due("link(" + link + ", 0)", x.link(link, 0), FoldedWays.UNKNOWN);
            Check.due("link(" + link + ", 9)", x.link(link, 9), FoldedWays.UNKNOWN);
        }
        int[] no = {-1, 3, Integer.MIN_VALUE, Integer.MAX_VALUE};
        for (int number : no) {
            Check.due("mark(3, " + number + ")", x.mark(3, number), FoldedWays.OUTSIDE);
            Check.due("link(3, " + number + ")", x.link(3, number), FoldedWays.OUTSIDE);
        }
    }

    private static void links() {
        FoldedWays x = Check.withNet("6,50,12,43");
        int[][] ends = {{5, 0}, {0, 5}, {1, 2}, {2, 1}, {4, 3}, {3, 4}};
        for (int link = 0; link < ends.length; link++) {
            Check.due("link(" + link + ", 0)", x.link(link, 0), ends[link][0]);
            Check.due("link(" + link + ", 1)", x.link(link, 1), ends[link][1]);
            Check.due("link(" + link + ", 2)", x.link(link, 2), 0);
        }
        x.bind(3, 5, 1);
        x.bind(1, 5, 33);
        x.bind(0, 1, 4);
        int[] in = {10, 0, 1, 0, 0, 0};
        for (int link = 0; link < in.length; link++) {
            Check.due("bound: link(" + link + ", 2)", x.link(link, 2), in[link]);
        }
    }
}
