/**
 * Links that are named by bits, and ways over them folded into one row of bits. The words in
 * capitals in the comments are those of the document (DOC.md).
 */
public final class FoldedWays {
    public static final int NONE = -1, UNKNOWN = -1001, OUTSIDE = -1002, STATE = -1003, FULL = -1004;

    private static final int MOST_NODES = 6;
    private static final int MOST_LINKS = 16;
    private static final int PLACES = 4;
    private static final int VARIANTS = 3;
    private static final int SPREAD_FACTS = 9;
    private static final int COUNTS = 12;
    private static final long DIGEST_START = 1693L;
    private static final long DIGEST_FACTOR = 31L;

    private final Page page;
    private final Graph graph;
    private final Marks marks;
    private final Bundles bundles;
    private final Flow flow;
    private int netsRead;
    private int timesSent;
    private int passagesSent;
    private int astraySent;
    private int loopsSent;

    public FoldedWays() {
        page = new Page();
        graph = new Graph();
        marks = new Marks();
        bundles = new Bundles();
        flow = new Flow();
    }

    // ---- texts

    public int letter(int code) {
        if (code < Page.LEAST_CODE || code > Page.MOST_CODE) {
            return OUTSIDE;
        }
        if (page.isFull()) {
            return FULL;
        }
        page.append(code);
        return page.size();
    }

    public int blank() {
        int had = page.size();
        page.clear();
        return had;
    }

    public int fault() {
        return page.firstWrong();
    }

    public int net() {
        if (!page.isWhole()) {
            return STATE;
        }
        graph.read(page);
        page.clear();
        bundles.clear();
        marks.drawAll(graph.linkCount());
        netsRead++;
        return graph.linkCount();
    }

    // ---- marks

    public int set(int what, int v) {
        if (!marks.allows(what, v)) {
            return OUTSIDE;
        }
        int was = marks.setting(what);
        marks.change(what, v);
        marks.drawAll(graph.linkCount());
        return was;
    }

    public long mark(int link, int variant) {
        if (!graph.hasLink(link)) {
            return UNKNOWN;
        }
        if (!isVariant(variant)) {
            return OUTSIDE;
        }
        return marks.ofLink(link, variant);
    }

    public int link(int link, int what) {
        if (!graph.hasLink(link)) {
            return UNKNOWN;
        }
        switch (what) {
            case 0:
                return graph.startOf(link);
            case 1:
                return graph.endOf(link);
            case 2:
                return bundles.placesWith(link);
            default:
                return OUTSIDE;
        }
    }

    // ---- ways, trees

    public int way(int from, int to, int place) {
        if (!graph.hasNode(from) || !graph.hasNode(to)) {
            return UNKNOWN;
        }
        return graph.nodeOnWay(from, to, place);
    }

    public int tree(int from, int nodes) {
        if (!graph.hasNode(from)) {
            return UNKNOWN;
        }
        if (!graph.hasNodes(nodes)) {
            return OUTSIDE;
        }
        return graph.treeLinks(from, nodes);
    }

    // ---- bundles

    public int bind(int place, int from, int nodes) {
        if (!isPlace(place) || !graph.hasNode(from)) {
            return UNKNOWN;
        }
        if (!graph.hasNodes(nodes)) {
            return OUTSIDE;
        }
        int links = graph.treeLinks(from, nodes);
        if (links == 0) {
            return STATE;
        }
        if (bundles.isThere(place)) {
            return FULL;
        }
        bundles.put(place, links);
        return Integer.bitCount(links);
    }

    public int loosen(int place) {
        if (!isPlace(place)) {
            return UNKNOWN;
        }
        if (!bundles.isThere(place)) {
            return STATE;
        }
        int had = bundles.linksAt(place);
        bundles.put(place, 0);
        return had;
    }

    public long bound(int place, int variant) {
        if (!isPlace(place) || !bundles.isThere(place)) {
            return UNKNOWN;
        }
        if (!isVariant(variant)) {
            return OUTSIDE;
        }
        return marks.ofBundle(place, variant);
    }

    // ---- what is folded

    public long fold(int from, int nodes, int variant, boolean isBound) {
        if (!graph.hasNode(from)) {
            return UNKNOWN;
        }
        if (!graph.hasNodes(nodes) || !isVariant(variant)) {
            return OUTSIDE;
        }
        return foldedBits(graph.treeLinks(from, nodes), variant, isBound);
    }

    public int spread(int from, int nodes, int variant, boolean isBound, int what) {
        if (!graph.hasNode(from)) {
            return UNKNOWN;
        }
        if (!graph.hasNodes(nodes) || !isVariant(variant) || what < 0 || what >= SPREAD_FACTS) {
            return OUTSIDE;
        }
        spreadOut(from, nodes, variant, isBound);
        return spreadFact(what);
    }

    public int best(int from, int nodes, boolean isBound) {
        if (!graph.hasNode(from)) {
            return UNKNOWN;
        }
        if (!graph.hasNodes(nodes)) {
            return OUTSIDE;
        }
        return bestVariant(from, nodes, isBound);
    }

    public int send(int from, int nodes, boolean isBound) {
        if (!graph.hasNode(from)) {
            return UNKNOWN;
        }
        if (!graph.hasNodes(nodes)) {
            return OUTSIDE;
        }
        spreadOut(from, nodes, bestVariant(from, nodes, isBound), isBound);
        timesSent++;
        passagesSent += flow.passages;
        astraySent += flow.astray;
        loopsSent += flow.loops;
        return flow.astray;
    }

    // ---- what is told of all

    public int count(int what) {
        switch (what) {
            case 0:
                return graph.nodeCount();
            case 1:
                return graph.linkCount();
            case 2:
                return page.size();
            case 3:
            case 4:
            case 5:
                return marks.setting(what - 3);
            case 6:
                return bundles.howMany();
            case 7:
                return netsRead;
            case 8:
                return timesSent;
            case 9:
                return passagesSent;
            case 10:
                return astraySent;
            case 11:
                return loopsSent;
            default:
                return OUTSIDE;
        }
    }

    public long digest() {
        long h = DIGEST_START;
        h = withLinks(h);
        h = withBundles(h);
        h = withNodes(h);
        h = withPage(h);
        return withCounts(h);
    }

    // ---- what the calls are made of

    private static boolean isVariant(int variant) {
        return variant >= 0 && variant < VARIANTS;
    }

    private static boolean isPlace(int place) {
        return place >= 0 && place < PLACES;
    }

    private long foldedBits(int treeLinks, int variant, boolean isBound) {
        long bits = 0L;
        int replaced = 0;
        if (isBound) {
            for (int place = 0; place < PLACES; place++) {
                int links = bundles.linksAt(place);
                if (links != 0 && (links & ~treeLinks) == 0) {
                    bits |= marks.ofBundle(place, variant);
                    replaced |= links;
                }
            }
        }
        int left = treeLinks & ~replaced;
        for (int link = 0; link < graph.linkCount(); link++) {
            if ((left >> link & 1) != 0) {
                bits |= marks.ofLink(link, variant);
            }
        }
        return bits;
    }

    /** All LINKS that MATCH; BUNDLES count here whether or not the FOLD was a bound one. */
    private int matchingLinks(long bits, int variant) {
        int matching = 0;
        for (int link = 0; link < graph.linkCount(); link++) {
            if ((marks.ofLink(link, variant) & ~bits) == 0L) {
                matching |= 1 << link;
            }
        }
        for (int place = 0; place < PLACES; place++) {
            if ((marks.ofBundle(place, variant) & ~bits) == 0L) {
                matching |= bundles.linksAt(place);
            }
        }
        return matching;
    }

    private void spreadOut(int from, int nodes, int variant, boolean isBound) {
        int treeLinks = graph.treeLinks(from, nodes);
        long bits = foldedBits(treeLinks, variant, isBound);
        flow.run(graph, from, treeLinks, matchingLinks(bits, variant));
        flow.foldBits = Long.bitCount(bits);
    }

    private int spreadFact(int what) {
        switch (what) {
            case 0:
                return flow.foldBits;
            case 1:
                return flow.passages;
            case 2:
                return flow.astray;
            case 3:
                return flow.loops;
            case 4:
                return flow.steps;
            case 5:
                return flow.reached;
            case 6:
                return marks.oddsAbove(flow.foldBits);
            case 7:
                return marks.oddsBelow(flow.foldBits);
            default:
                return flow.matchingAside;
        }
    }

    private int bestVariant(int from, int nodes, boolean isBound) {
        int best = 0;
        int leastAstray = 0;
        int leastBits = 0;
        for (int variant = 0; variant < VARIANTS; variant++) {
            spreadOut(from, nodes, variant, isBound);
            boolean isBetter = flow.astray < leastAstray
                    || flow.astray == leastAstray && flow.foldBits < leastBits;
            if (variant == 0 || isBetter) {
                best = variant;
                leastAstray = flow.astray;
                leastBits = flow.foldBits;
            }
        }
        return best;
    }

    private static long with(long h, long number) {
        return DIGEST_FACTOR * h + number;
    }

    private long withLinks(long start) {
        long h = start;
        for (int link = 0; link < graph.linkCount(); link++) {
            h = with(h, graph.startOf(link));
            h = with(h, graph.endOf(link));
            h = with(h, bundles.placesWith(link));
            for (int variant = 0; variant < VARIANTS; variant++) {
                h = with(h, marks.ofLink(link, variant));
            }
        }
        return h;
    }

    private long withBundles(long start) {
        long h = start;
        for (int place = 0; place < PLACES; place++) {
            if (bundles.isThere(place)) {
                h = with(h, place);
                for (int variant = 0; variant < VARIANTS; variant++) {
                    h = with(h, marks.ofBundle(place, variant));
                }
            }
        }
        return h;
    }

    private long withNodes(long start) {
        long h = start;
        int all = graph.allNodes();
        for (int node = 0; node < graph.nodeCount(); node++) {
            h = with(h, graph.treeLinks(node, all));
            for (int variant = 0; variant < VARIANTS; variant++) {
                spreadOut(node, all, variant, false);
                for (int what = 0; what < SPREAD_FACTS; what++) {
                    h = with(h, spreadFact(what));
                }
            }
            h = with(h, bestVariant(node, all, false));
            h = with(h, bestVariant(node, all, true));
        }
        return h;
    }

    private long withPage(long start) {
        long h = start;
        for (int at = 0; at < page.size(); at++) {
            h = with(h, page.codeAt(at));
        }
        return h;
    }

    private long withCounts(long start) {
        long h = start;
        for (int what = 0; what < COUNTS; what++) {
            h = with(h, count(what));
        }
        return h;
    }

    /** THE PAGE: at most as many letters as the longest NET has, so a ninth ',' never comes. */
    private static final class Page {
        private static final int LEAST_CODE = 32;
        private static final int MOST_CODE = 126;
        private static final int MOST_LETTERS = 25;
        /** A ',' and two digits. */
        private static final int PAIR_LETTERS = 3;

        private final int[] codes;
        private int length;

        Page() {
            codes = new int[MOST_LETTERS];
        }

        int size() {
            return length;
        }

        boolean isFull() {
            return length >= MOST_LETTERS;
        }

        void append(int code) {
            if (length < MOST_LETTERS) {
                codes[length] = code;
                length++;
            }
        }

        void clear() {
            length = 0;
        }

        int codeAt(int at) {
            return at >= 0 && at < length ? codes[at] : 0;
        }

        int digitAt(int at) {
            return codeAt(at) - '0';
        }

        int pairCount() {
            return (length - 1) / PAIR_LETTERS;
        }

        int firstOfPair(int pair) {
            return digitAt(PAIR_LETTERS * pair + 2);
        }

        int secondOfPair(int pair) {
            return digitAt(PAIR_LETTERS * pair + 3);
        }

        boolean isWhole() {
            return length > PAIR_LETTERS && length % PAIR_LETTERS == 1 && firstWrong() == length;
        }

        int firstWrong() {
            for (int at = 0; at < length; at++) {
                if (!fits(at)) {
                    return at;
                }
            }
            return length;
        }

        /** Whether the letter at a place may follow those ahead of it, all of which fit. */
        private boolean fits(int at) {
            if (at == 0) {
                return digitAt(0) >= 2 && digitAt(0) <= MOST_NODES;
            }
            switch (at % PAIR_LETTERS) {
                case 1:
                    return codeAt(at) == ',';
                case 2:
                    return isNodeAt(at);
                default:
                    return isNodeAt(at) && endsNewPair(at);
            }
        }

        private boolean isNodeAt(int at) {
            return digitAt(at) >= 0 && digitAt(at) < digitAt(0);
        }

        private boolean endsNewPair(int at) {
            int first = digitAt(at - 1);
            int second = digitAt(at);
            if (first == second) {
                return false;
            }
            int pairsAhead = at / PAIR_LETTERS - 1;
            for (int pair = 0; pair < pairsAhead; pair++) {
                int one = firstOfPair(pair);
                int other = secondOfPair(pair);
                if (one == first && other == second || one == second && other == first) {
                    return false;
                }
            }
            return true;
        }
    }

    /** The NODES and LINKS of the NET, with the WAYS between all NODES, found once as it is read. */
    private static final class Graph {
        private int nodes;
        private int links;
        private final int[] start;
        private final int[] end;
        /** The four rows below are by two NODES, see at(). */
        private final int[] linkBetween;
        private final int[] wayLength;
        private final int[] wayNext;
        private final int[] wayLinks;

        Graph() {
            start = new int[MOST_LINKS];
            end = new int[MOST_LINKS];
            linkBetween = new int[MOST_NODES * MOST_NODES];
            wayLength = new int[MOST_NODES * MOST_NODES];
            wayNext = new int[MOST_NODES * MOST_NODES];
            wayLinks = new int[MOST_NODES * MOST_NODES];
        }

        int nodeCount() {
            return nodes;
        }

        int linkCount() {
            return links;
        }

        boolean hasNode(int node) {
            return node >= 0 && node < nodes;
        }

        boolean hasLink(int link) {
            return link >= 0 && link < links;
        }

        int allNodes() {
            return (1 << nodes) - 1;
        }

        boolean hasNodes(int set) {
            return (set & ~allNodes()) == 0;
        }

        int startOf(int link) {
            return link >= 0 && link < MOST_LINKS ? start[link] : NONE;
        }

        int endOf(int link) {
            return link >= 0 && link < MOST_LINKS ? end[link] : NONE;
        }

        private static int at(int from, int to) {
            return MOST_NODES * from + to;
        }

        /** Takes over a PAGE that is whole. */
        void read(Page page) {
            forget();
            nodes = Math.min(page.digitAt(0), MOST_NODES);
            for (int pair = 0; pair < page.pairCount(); pair++) {
                int one = page.firstOfPair(pair);
                int other = page.secondOfPair(pair);
                addLink(one, other);
                addLink(other, one);
            }
            for (int length = 1; length < nodes; length++) {
                findWays(length);
            }
        }

        private void forget() {
            nodes = 0;
            links = 0;
            for (int from = 0; from < MOST_NODES; from++) {
                for (int to = 0; to < MOST_NODES; to++) {
                    linkBetween[at(from, to)] = NONE;
                    wayLength[at(from, to)] = from == to ? 0 : NONE;
                    wayNext[at(from, to)] = NONE;
                    wayLinks[at(from, to)] = 0;
                }
            }
        }

        private void addLink(int from, int to) {
            if (links < MOST_LINKS && hasNode(from) && hasNode(to)) {
                start[links] = from;
                end[links] = to;
                linkBetween[at(from, to)] = links;
                links++;
            }
        }

        /** All WAYS of a length, when all shorter ones are known. */
        private void findWays(int length) {
            for (int from = 0; from < nodes; from++) {
                for (int to = 0; to < nodes; to++) {
                    if (wayLength[at(from, to)] == NONE) {
                        findWay(from, to, length);
                    }
                }
            }
        }

        /** The least next NODE with a WAY that is one shorter also gives the first WAY by numbers. */
        private void findWay(int from, int to, int length) {
            for (int next = 0; next < nodes; next++) {
                int link = linkBetween[at(from, next)];
                if (link != NONE && wayLength[at(next, to)] == length - 1) {
                    wayLength[at(from, to)] = length;
                    wayNext[at(from, to)] = next;
                    wayLinks[at(from, to)] = wayLinks[at(next, to)] | 1 << link;
                    return;
                }
            }
        }

        int nodeOnWay(int from, int to, int place) {
            if (!hasNode(from) || !hasNode(to)) {
                return NONE;
            }
            if (place < 0 || place > wayLength[at(from, to)]) {
                return NONE;
            }
            int node = from;
            for (int step = 0; step < place && hasNode(node); step++) {
                node = wayNext[at(node, to)];
            }
            return node;
        }

        int treeLinks(int from, int set) {
            if (!hasNode(from)) {
                return 0;
            }
            int found = 0;
            for (int to = 0; to < nodes; to++) {
                if ((set >> to & 1) != 0) {
                    found |= wayLinks[at(from, to)];
                }
            }
            return found;
        }
    }

    /** WIDTH, DRAWN and SEED, and the MARKS that follow from them. */
    private static final class Marks {
        private static final int LEAST_WIDTH = 8;
        private static final int MOST_WIDTH = 40;
        private static final int MOST_DRAWN = 4;
        private static final long FACTOR = 1103515245L;
        private static final long ADDED = 12345L;
        private static final long REST_BY = 1L << 31;
        private static final long PART = 65536L;
        /** In each VARIANT: first the LINKS, then the BUNDLES. */
        private static final int ROW = MOST_LINKS + PLACES;

        private int width;
        private int drawn;
        private int seed;
        /** The SEED as the drawing has brought it on so far. */
        private long nextSeed;
        private final long[] bits;

        Marks() {
            width = 16;
            drawn = 3;
            seed = 1;
            bits = new long[VARIANTS * ROW];
        }

        boolean allows(int what, int v) {
            switch (what) {
                case 0:
                    return v >= LEAST_WIDTH && v <= MOST_WIDTH;
                case 1:
                    return v >= 1 && v <= MOST_DRAWN;
                case 2:
                    return v >= 0;
                default:
                    return false;
            }
        }

        int setting(int what) {
            return what == 0 ? width : what == 1 ? drawn : seed;
        }

        void change(int what, int v) {
            if (what == 0) {
                width = v;
            } else if (what == 1) {
                drawn = v;
            } else {
                seed = v;
            }
        }

        long ofLink(int link, int variant) {
            return isVariant(variant) && link >= 0 && link < MOST_LINKS ? bits[ROW * variant + link] : 0L;
        }

        long ofBundle(int place, int variant) {
            return isVariant(variant) && isPlace(place) ? bits[ROW * variant + MOST_LINKS + place] : 0L;
        }

        void drawAll(int links) {
            nextSeed = seed;
            for (int variant = 0; variant < VARIANTS; variant++) {
                for (int link = 0; link < links && link < MOST_LINKS; link++) {
                    bits[ROW * variant + link] = drawMark();
                }
                // places without a BUNDLE are drawn too: the VARIANTS behind depend on it
                for (int place = 0; place < PLACES; place++) {
                    bits[ROW * variant + MOST_LINKS + place] = drawMark();
                }
            }
        }

        private long drawMark() {
            long drawnBits = 0L;
            for (int time = 0; time < drawn; time++) {
                drawnBits |= 1L << drawBit();
            }
            return drawnBits;
        }

        private int drawBit() {
            nextSeed = (FACTOR * nextSeed + ADDED) % REST_BY;
            return width > 0 ? (int) (nextSeed / PART % width) : 0;
        }

        int oddsAbove(int foldBits) {
            return power(reduced(foldBits, foldBits));
        }

        int oddsBelow(int foldBits) {
            return power(reduced(width, foldBits));
        }

        /**
         * A number by the greatest divisor of the FOLD's bits and WIDTH: to reduce ahead of the
         * power comes to the same as behind it. Of 0 bits that divisor is WIDTH: 0 by 1.
         */
        private int reduced(int number, int foldBits) {
            for (int divisor = width; divisor > 1; divisor--) {
                if (foldBits % divisor == 0 && width % divisor == 0) {
                    return number / divisor;
                }
            }
            return number;
        }

        private int power(int base) {
            int product = 1;
            for (int time = 0; time < drawn; time++) {
                product *= base;
            }
            return product;
        }
    }

    /** The LINKS of the BUNDLE at each place; no LINKS: there is no BUNDLE. */
    private static final class Bundles {
        private final int[] links;

        Bundles() {
            links = new int[PLACES];
        }

        int linksAt(int place) {
            return isPlace(place) ? links[place] : 0;
        }

        boolean isThere(int place) {
            return linksAt(place) != 0;
        }

        void put(int place, int set) {
            if (isPlace(place)) {
                links[place] = set;
            }
        }

        void clear() {
            for (int place = 0; place < PLACES; place++) {
                links[place] = 0;
            }
        }

        int howMany() {
            int there = 0;
            for (int place = 0; place < PLACES; place++) {
                if (isThere(place)) {
                    there++;
                }
            }
            return there;
        }

        int placesWith(int link) {
            int places = 0;
            for (int place = 0; place < PLACES; place++) {
                places |= (links[place] >> link & 1) << place;
            }
            return places;
        }
    }

    /** What the SPREAD that was run last came to; one object serves all calls. */
    private static final class Flow {
        int foldBits;
        int passages;
        int astray;
        int loops;
        int steps;
        int reached;
        int matchingAside;

        void run(Graph graph, int from, int treeLinks, int matching) {
            passages = 0;
            astray = 0;
            loops = 0;
            steps = 0;
            reached = 1 << from;
            matchingAside = Integer.bitCount(matching & ~treeLinks);
            int senders = reached;
            // each STEP but the last reaches a NODE anew, so there are at most as many as NODES
            for (int step = 0; step < MOST_NODES && senders != 0; step++) {
                senders = sendOn(graph, senders, treeLinks, matching);
                steps++;
            }
        }

        /** One STEP: answers the NODES that are REACHED anew. */
        private int sendOn(Graph graph, int senders, int treeLinks, int matching) {
            int before = reached;
            for (int link = 0; link < graph.linkCount(); link++) {
                boolean isSent = (matching >> link & 1) != 0 && (senders >> graph.startOf(link) & 1) != 0;
                if (isSent) {
                    passages++;
                    astray += 1 - (treeLinks >> link & 1);
                    int end = 1 << graph.endOf(link);
                    loops += (reached & end) != 0 ? 1 : 0;
                    reached |= end;
                }
            }
            return reached & ~before;
        }
    }
}
