/** Promises 18 and 19: count, digest; and that the digest is made of what the calls tell. */
public final class WholeTest {
    public static void main(String[] args) {
        counts();
        digests("2,01");
        digests("5,01,34");
        digests("6,01,12,23,34,45,50,02,31");
        digestsWrap();
        Check.end();
    }

    private static void counts() {
        FoldedWays x = Check.withNet("4,01,12,23");
        x.set(0, 11);
        x.set(1, 2);
        x.set(2, 99);
        x.bind(1, 0, 2);
        x.bind(3, 0, 4);
        x.letter('?');
        int[] want = {4, 6, 1, 11, 2, 99, 2, 1, 0, 0, 0, 0};
        for (int what = 0; what < want.length; what++) {
            Check.due("count(" + what + ")", x.count(what), want[what]);
        }
        int[] no = {-1, 12, Integer.MIN_VALUE, Integer.MAX_VALUE};
        for (int what : no) {
            Check.due("count(" + what + ")", x.count(what), FoldedWays.OUTSIDE);
        }
    }

    private static void digests(String net) {
        FoldedWays x = Check.withNet(net);
        Check.due("digest() of " + net, x.digest(), byCalls(x, ""));
        x.set(0, 9);
        x.set(2, 4711);
        x.bind(3, 1, 1);
        x.bind(0, 0, 3);
        x.send(0, 3, true);
        x.send(1, 1, false);
        Check.type(x, "4,~ ");
        long told = x.digest();
        Check.due("digest() of " + net + ", later", told, byCalls(x, "4,~ "));
        Check.due("digest() changes nothing", x.digest(), told);
    }

    private static void digestsWrap() {
        FoldedWays x = new FoldedWays();
        Check.type(x, "~~~~~~~~~~~~~~~~~~~~~~~~~");
        Check.due("digest() of a full PAGE", x.digest(), byCalls(x, "~~~~~~~~~~~~~~~~~~~~~~~~~"));
    }

    private static long byCalls(FoldedWays x, String page) {
        long h = 1693;
        for (int link = 0; link < x.count(1); link++) {
            for (int what = 0; what < 3; what++) {
                h = 31 * h + x.link(link, what);
            }
            for (int variant = 0; variant < 3; variant++) {
                h = 31 * h + x.mark(link, variant);
            }
        }
        for (int place = 0; place < 4; place++) {
            for (int variant = 0; variant < 3 && x.bound(place, 0) != FoldedWays.UNKNOWN; variant++) {
                h = variant == 0 ? 31 * h + place : h;
                h = 31 * h + x.bound(place, variant);
            }
        }
        int all = (1 << x.count(0)) - 1;
        for (int node = 0; node < x.count(0); node++) {
            h = 31 * h + x.tree(node, all);
            for (int number = 0; number < 27; number++) {
                h = 31 * h + x.spread(node, all, number / 9, false, number % 9);
            }
            h = 31 * h + x.best(node, all, false);
            h = 31 * h + x.best(node, all, true);
        }
        for (int i = 0; i < page.length(); i++) {
            h = 31 * h + page.charAt(i);
        }
        for (int what = 0; what < 12; what++) {
            h = 31 * h + x.count(what);
        }
        return h;
    }
}
