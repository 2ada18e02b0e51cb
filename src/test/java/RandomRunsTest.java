import java.util.Random;

/** Runs of calls by chance (always the same ones), the class against the Model. */
public final class RandomRunsTest {
    private static final int RUNS = 300;
    private static final int CALLS = 512;
    private static final int[] ODD = {-1, 7, 8, 9, 12, 16, 25, 31, 32, 33, 40, 41, 63, 64, 127, Integer.MIN_VALUE,
        Integer.MAX_VALUE, -1001, 1 << 16, 1 << 30};

    private final Random random;
    private final FoldedWays x = new FoldedWays();
    private final Model model = new Model();
    private final int run;

    private RandomRunsTest(int run) {
        this.run = run;
        random = new Random(run);
    }

    public static void main(String[] args) {
        for (int run = 0; run < RUNS; run++) {
            RandomRunsTest test = new RandomRunsTest(run);
            int calls = 0;
            while (calls < CALLS - 30) {
                calls += test.some();
            }
            test.due("digest()", test.x.digest(), test.model.digest());
        }
        Check.end();
    }

    private void due(String call, long got, long want) {
        Check.due("run " + run + ": " + call, got, want);
    }

    /** A number below a bound, seldom another one. */
    private int below(int bound) {
        return random.nextInt(25) == 0 ? ODD[random.nextInt(ODD.length)] : random.nextInt(bound);
    }

    private int node() {
        return below(Math.max(2, model.count(0)));
    }

    private int nodes() {
        return below(1 << Math.max(2, model.count(0)));
    }

    /** Some calls, and how many. */
    private int some() {
        int kind = random.nextInt(100);
        if (kind < 4 || model.count(0) == 0 && kind < 50) {
            return texts();
        }
        if (kind < 12) {
            loneLetters();
        } else if (kind < 22) {
            return settings();
        } else if (kind < 40) {
            waysAndMarks();
        } else if (kind < 62) {
            bundles();
        } else if (kind < 97) {
            folded();
        } else {
            all();
        }
        return 1;
    }

    private int texts() {
        String text = netText();
        due("blank()", x.blank(), model.blank());
        for (int i = 0; i < text.length(); i++) {
            due("letter", x.letter(text.charAt(i)), model.letter(text.charAt(i)));
        }
        due("fault() of " + text, x.fault(), model.fault());
        due("net() of " + text, x.net(), model.net());
        return text.length() + 3;
    }

    private String netText() {
        int many = 2 + random.nextInt(5);
        StringBuilder text = new StringBuilder().append(many);
        int pairs = 1 + random.nextInt(8);
        for (int pair = 0; pair < pairs; pair++) {
            int one = random.nextInt(many);
            int other = random.nextInt(many);
            boolean isTaken = text.indexOf("," + one + other) >= 0 || text.indexOf("," + other + one) >= 0;
            if (one != other && !isTaken || random.nextInt(30) == 0) {
                text.append(',').append(one).append(other);
            }
        }
        if (random.nextInt(8) == 0) {
            text.setCharAt(random.nextInt(text.length()), "0123456,/7".charAt(random.nextInt(10)));
        }
        if (random.nextInt(8) == 0) {
            text.setLength(random.nextInt(text.length()));
        }
        return text.toString();
    }

    private void loneLetters() {
        int code = random.nextInt(3) == 0 ? below(130) : "0123456,".charAt(random.nextInt(8));
        switch (random.nextInt(12)) {
            case 0 -> due("blank()", x.blank(), model.blank());
            case 1, 2 -> due("fault()", x.fault(), model.fault());
            case 3 -> due("net()", x.net(), model.net());
            default -> due("letter(" + code + ")", x.letter(code), model.letter(code));
        }
    }

    private int settings() {
        int what = below(3);
        int v = what == 0 ? 6 + below(20) * (1 + random.nextInt(2)) : what == 1 ? below(6) : random.nextInt();
        due("set(" + what + ", " + v + ")", x.set(what, v), model.set(what, v));
        due("count", x.count(3), model.count(3));
        return 2;
    }

    private void waysAndMarks() {
        int link = below(Math.max(2, model.count(1)));
        int small = below(3);
        int from = node();
        int to = node();
        int place = below(6);
        int set = nodes();
        switch (random.nextInt(4)) {
            case 0 -> due("mark(" + link + ", " + small + ")", x.mark(link, small), model.mark(link, small));
            case 1 -> due("link(" + link + ", " + small + ")", x.link(link, small), model.link(link, small));
            case 2 -> due("way(" + from + ", " + to + ", " + place + ")", x.way(from, to, place),
                    model.way(from, to, place));
            default -> due("tree(" + from + ", " + set + ")", x.tree(from, set), model.tree(from, set));
        }
    }

    private void bundles() {
        int place = below(4);
        int from = node();
        int set = random.nextBoolean() ? nodes() : 1 << random.nextInt(6);
        int variant = below(3);
        switch (random.nextInt(4)) {
            case 0 -> due("loosen(" + place + ")", x.loosen(place), model.loosen(place));
            case 1 -> due("bound(" + place + ", " + variant + ")", x.bound(place, variant),
                    model.bound(place, variant));
            default -> due("bind(" + place + ", " + from + ", " + set + ")", x.bind(place, from, set),
                    model.bind(place, from, set));
        }
    }

    private void folded() {
        int from = node();
        int set = nodes();
        int variant = below(3);
        boolean isBound = random.nextBoolean();
        int what = below(9);
        String at = "(" + from + ", " + set + ", " + variant + ", " + isBound + ", " + what + ")";
        switch (random.nextInt(7)) {
            case 0 -> due("fold" + at, x.fold(from, set, variant, isBound), model.fold(from, set, variant, isBound));
            case 1 -> due("best" + at, x.best(from, set, isBound), model.best(from, set, isBound));
            case 2 -> due("send" + at, x.send(from, set, isBound), model.send(from, set, isBound));
            default -> due("spread" + at, x.spread(from, set, variant, isBound, what),
                    model.spread(from, set, variant, isBound, what));
        }
    }

    private void all() {
        int what = below(12);
        if (random.nextInt(3) == 0) {
            due("digest()", x.digest(), model.digest());
        } else {
            due("count(" + what + ")", x.count(what), model.count(what));
        }
    }
}
