import java.math.BigInteger;
import java.util.ArrayList;
import java.util.Collections;
import java.util.List;
import java.util.Set;
import java.util.TreeSet;

/**
 * The document once more, told with sets and with everything worked out anew in each call: slow, and
 * by other means than the class, so that the two can be set against each other.
 */
final class Model {
    static final int NONE = -1;
    static final int UNKNOWN = -1001;
    static final int OUTSIDE = -1002;
    static final int STATE = -1003;
    static final int FULL = -1004;

    private String page = "";
    private int nodes = 0;
    private final List<int[]> links = new ArrayList<>();
    private final List<Set<Integer>> bundles = new ArrayList<>();
    private final int[] settings = {16, 3, 1};
    private final int[] counted = new int[5];

    Model() {
        noBundles();
    }

    private void noBundles() {
        bundles.clear();
        for (int place = 0; place < 4; place++) {
            bundles.add(new TreeSet<>());
        }
    }

    // ---- texts

    int letter(int code) {
        if (code < 32 || code > 126) {
            return OUTSIDE;
        }
        if (page.length() == 25) {
            return FULL;
        }
        page += (char) code;
        return page.length();
    }

    int blank() {
        int had = page.length();
        page = "";
        return had;
    }

    int fault() {
        for (int many = 1; many <= page.length(); many++) {
            if (!begins(page.substring(0, many))) {
                return many - 1;
            }
        }
        return page.length();
    }

    private static boolean begins(String text) {
        String whole = text + "2,01".substring(Math.min(text.length(), 4));
        while (whole.length() % 3 != 1) {
            whole += whole.length() % 3 == 2 ? "0" : "_";
        }
        if (!whole.matches("[2-6](,[0-5][0-5_])*")) {
            return false;
        }
        Set<String> seen = new TreeSet<>();
        for (int at = 2; at < text.length(); at += 3) {
            char one = text.charAt(at);
            char other = at + 1 < text.length() ? text.charAt(at + 1) : '_';
            boolean isAlone = other == '_';
            if (one >= text.charAt(0) || !isAlone && (other >= text.charAt(0) || one == other)) {
                return false;
            }
            if (!isAlone && !(seen.add("" + one + other) && seen.add("" + other + one))) {
                return false;
            }
        }
        return text.length() <= 25 && text.indexOf('_') < 0;
    }

    int net() {
        if (page.length() < 4 || page.length() % 3 != 1 || fault() != page.length()) {
            return STATE;
        }
        links.clear();
        noBundles();
        String[] parts = page.split(",");
        nodes = Integer.parseInt(parts[0]);
        for (int i = 1; i < parts.length; i++) {
            int one = parts[i].charAt(0) - '0';
            int other = parts[i].charAt(1) - '0';
            links.add(new int[] {one, other});
            links.add(new int[] {other, one});
        }
        page = "";
        counted[0]++;
        return links.size();
    }

    // ---- marks

    int set(int what, int v) {
        int[] least = {8, 1, 0};
        int[] most = {40, 4, Integer.MAX_VALUE};
        if (what < 0 || what > 2 || v < least[what] || v > most[what]) {
            return OUTSIDE;
        }
        int was = settings[what];
        settings[what] = v;
        return was;
    }

    /** The MARK that is drawn as the given one of its VARIANT: the LINKS, then the BUNDLES. */
    private Set<Integer> drawnMark(int number, int variant) {
        int skip = (variant * (links.size() + 4) + number) * settings[1];
        BigInteger seed = BigInteger.valueOf(settings[2]);
        Set<Integer> bits = new TreeSet<>();
        for (int draw = 0; draw < skip + settings[1]; draw++) {
            seed = seed.multiply(BigInteger.valueOf(1103515245)).add(BigInteger.valueOf(12345))
                    .mod(BigInteger.TWO.pow(31));
            if (draw >= skip) {
                bits.add(seed.shiftRight(16).mod(BigInteger.valueOf(settings[0])).intValue());
            }
        }
        return bits;
    }

    private static long asBits(Set<Integer> set) {
        long bits = 0;
        for (int bit : set) {
            bits += 1L << bit;
        }
        return bits;
    }

    private static Set<Integer> asSet(int bits) {
        Set<Integer> set = new TreeSet<>();
        for (int bit = 0; bit < 32; bit++) {
            if ((bits & 1 << bit) != 0) {
                set.add(bit);
            }
        }
        return set;
    }

    long mark(int link, int variant) {
        if (link < 0 || link >= links.size()) {
            return UNKNOWN;
        }
        return variant < 0 || variant > 2 ? OUTSIDE : asBits(drawnMark(link, variant));
    }

    int link(int link, int what) {
        if (link < 0 || link >= links.size()) {
            return UNKNOWN;
        }
        if (what == 2) {
            Set<Integer> in = new TreeSet<>();
            for (int place = 0; place < 4; place++) {
                if (bundles.get(place).contains(link)) {
                    in.add(place);
                }
            }
            return (int) asBits(in);
        }
        return what < 0 || what > 2 ? OUTSIDE : links.get(link)[what];
    }

    // ---- ways, trees

    private boolean isNode(int node) {
        return node >= 0 && node < nodes;
    }

    private boolean isSet(int set) {
        return set >= 0 && set < 1 << nodes;
    }

    private int linkFromTo(int from, int to) {
        for (int link = 0; link < links.size(); link++) {
            if (links.get(link)[0] == from && links.get(link)[1] == to) {
                return link;
            }
        }
        return NONE;
    }

    /** All ways without a NODE twice, as texts of digits. */
    private void allWays(String so, int to, List<String> found) {
        int last = so.charAt(so.length() - 1) - '0';
        if (last == to) {
            found.add(so);
            return;
        }
        for (int next = 0; next < nodes; next++) {
            if (so.indexOf('0' + next) < 0 && linkFromTo(last, next) != NONE) {
                allWays(so + next, to, found);
            }
        }
    }

    private String wayText(int from, int to) {
        List<String> found = new ArrayList<>();
        allWays("" + from, to, found);
        Collections.sort(found, (a, b) -> a.length() != b.length() ? a.length() - b.length() : a.compareTo(b));
        return found.isEmpty() ? "" : found.get(0);
    }

    int way(int from, int to, int place) {
        if (!isNode(from) || !isNode(to)) {
            return UNKNOWN;
        }
        String way = wayText(from, to);
        return place < 0 || place >= way.length() ? NONE : way.charAt(place) - '0';
    }

    private Set<Integer> treeSet(int from, int set) {
        Set<Integer> tree = new TreeSet<>();
        for (int to : asSet(set)) {
            String way = wayText(from, to);
            for (int i = 1; i < way.length(); i++) {
                tree.add(linkFromTo(way.charAt(i - 1) - '0', way.charAt(i) - '0'));
            }
        }
        return tree;
    }

    int tree(int from, int set) {
        if (!isNode(from)) {
            return UNKNOWN;
        }
        return isSet(set) ? (int) asBits(treeSet(from, set)) : OUTSIDE;
    }

    // ---- bundles

    int bind(int place, int from, int set) {
        if (place < 0 || place > 3 || !isNode(from)) {
            return UNKNOWN;
        }
        if (!isSet(set)) {
            return OUTSIDE;
        }
        Set<Integer> tree = treeSet(from, set);
        if (tree.isEmpty()) {
            return STATE;
        }
        if (!bundles.get(place).isEmpty()) {
            return FULL;
        }
        bundles.set(place, tree);
        return tree.size();
    }

    int loosen(int place) {
        if (place < 0 || place > 3) {
            return UNKNOWN;
        }
        if (bundles.get(place).isEmpty()) {
            return STATE;
        }
        return (int) asBits(bundles.set(place, new TreeSet<>()));
    }

    long bound(int place, int variant) {
        if (place < 0 || place > 3 || bundles.get(place).isEmpty()) {
            return UNKNOWN;
        }
        return variant < 0 || variant > 2 ? OUTSIDE : asBits(drawnMark(links.size() + place, variant));
    }

    // ---- what is folded

    private Set<Integer> foldSet(Set<Integer> tree, int variant, boolean isBound) {
        Set<Integer> left = new TreeSet<>(tree);
        Set<Integer> bits = new TreeSet<>();
        for (int place = 0; place < 4 && isBound; place++) {
            Set<Integer> bundle = bundles.get(place);
            if (!bundle.isEmpty() && tree.containsAll(bundle)) {
                left.removeAll(bundle);
                bits.addAll(drawnMark(links.size() + place, variant));
            }
        }
        for (int link : left) {
            bits.addAll(drawnMark(link, variant));
        }
        return bits;
    }

    long fold(int from, int set, int variant, boolean isBound) {
        if (!isNode(from)) {
            return UNKNOWN;
        }
        if (!isSet(set) || variant < 0 || variant > 2) {
            return OUTSIDE;
        }
        return asBits(foldSet(treeSet(from, set), variant, isBound));
    }

    private boolean matches(int link, Set<Integer> bits, int variant) {
        boolean does = bits.containsAll(drawnMark(link, variant));
        for (int place = 0; place < 4; place++) {
            does |= bundles.get(place).contains(link) && bits.containsAll(drawnMark(links.size() + place, variant));
        }
        return does;
    }

    private int[] spreadFacts(int from, int set, int variant, boolean isBound) {
        Set<Integer> tree = treeSet(from, set);
        Set<Integer> bits = foldSet(tree, variant, isBound);
        int[] facts = new int[9];
        facts[0] = bits.size();
        Set<Integer> matching = new TreeSet<>();
        for (int link = 0; link < links.size(); link++) {
            if (matches(link, bits, variant)) {
                matching.add(link);
                facts[8] += tree.contains(link) ? 0 : 1;
            }
        }
        Set<Integer> reached = new TreeSet<>(Set.of(from));
        List<Integer> senders = List.of(from);
        while (!senders.isEmpty()) {
            List<Integer> anew = new ArrayList<>();
            for (int node : senders) {
                for (int link : matching) {
                    if (links.get(link)[0] == node) {
                        facts[1]++;
                        facts[2] += tree.contains(link) ? 0 : 1;
                        if (reached.add(links.get(link)[1])) {
                            anew.add(links.get(link)[1]);
                        } else {
                            facts[3]++;
                        }
                    }
                }
            }
            facts[4]++;
            senders = anew;
        }
        facts[5] = (int) asBits(reached);
        BigInteger above = BigInteger.valueOf(bits.size()).pow(settings[1]);
        BigInteger below = BigInteger.valueOf(settings[0]).pow(settings[1]);
        facts[6] = above.divide(above.gcd(below)).intValueExact();
        facts[7] = below.divide(above.gcd(below)).intValueExact();
        return facts;
    }

    int spread(int from, int set, int variant, boolean isBound, int what) {
        if (!isNode(from)) {
            return UNKNOWN;
        }
        if (!isSet(set) || variant < 0 || variant > 2 || what < 0 || what > 8) {
            return OUTSIDE;
        }
        return spreadFacts(from, set, variant, isBound)[what];
    }

    private int[] bestFacts(int from, int set, boolean isBound) {
        List<int[]> all = new ArrayList<>();
        for (int variant = 0; variant < 3; variant++) {
            int[] facts = spreadFacts(from, set, variant, isBound);
            all.add(new int[] {facts[2], facts[0], variant, facts[1], facts[3]});
        }
        Collections.sort(all, java.util.Arrays::compare);
        return all.get(0);
    }

    int best(int from, int set, boolean isBound) {
        if (!isNode(from)) {
            return UNKNOWN;
        }
        return isSet(set) ? bestFacts(from, set, isBound)[2] : OUTSIDE;
    }

    int send(int from, int set, boolean isBound) {
        if (!isNode(from)) {
            return UNKNOWN;
        }
        if (!isSet(set)) {
            return OUTSIDE;
        }
        int[] facts = bestFacts(from, set, isBound);
        counted[1]++;
        counted[2] += facts[3];
        counted[3] += facts[0];
        counted[4] += facts[4];
        return facts[0];
    }

    // ---- what is told of all

    int count(int what) {
        if (what < 0 || what > 11) {
            return OUTSIDE;
        }
        if (what >= 7) {
            return counted[what - 7];
        }
        int there = 0;
        for (Set<Integer> bundle : bundles) {
            there += bundle.isEmpty() ? 0 : 1;
        }
        return new int[] {nodes, links.size(), page.length(), settings[0], settings[1], settings[2], there}[what];
    }

    long digest() {
        List<Long> numbers = new ArrayList<>();
        for (int link = 0; link < links.size(); link++) {
            for (int what = 0; what < 6; what++) {
                numbers.add(what < 3 ? (long) link(link, what) : mark(link, what - 3));
            }
        }
        for (int place = 0; place < 4; place++) {
            for (int what = -1; what < 3 && !bundles.get(place).isEmpty(); what++) {
                numbers.add(what < 0 ? (long) place : bound(place, what));
            }
        }
        int all = (1 << nodes) - 1;
        for (int node = 0; node < nodes; node++) {
            numbers.add((long) tree(node, all));
            for (int variant = 0; variant < 3; variant++) {
                for (int fact : spreadFacts(node, all, variant, false)) {
                    numbers.add((long) fact);
                }
            }
            numbers.add((long) best(node, all, false));
            numbers.add((long) best(node, all, true));
        }
        for (char code : page.toCharArray()) {
            numbers.add((long) code);
        }
        for (int what = 0; what < 12; what++) {
            numbers.add((long) count(what));
        }
        long h = 1693;
        for (long number : numbers) {
            h = 31 * h + number;
        }
        return h;
    }
}
