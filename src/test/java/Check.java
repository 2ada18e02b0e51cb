/** What the tests share: counts answers that are not as due, and types texts on THE PAGE. */
final class Check {
    private static int wrong = 0;
    private static int asked = 0;

    private Check() {
    }

    static void due(String call, long got, long want) {
        asked++;
        if (got != want) {
            wrong++;
            System.out.println(call + " answered " + got + ", due is " + want);
        }
    }

    static void due(String what, boolean holds) {
        due(what, holds ? 1 : 0, 1);
    }

    static void type(FoldedWays x, String text) {
        for (int i = 0; i < text.length(); i++) {
            x.letter(text.charAt(i));
        }
    }

    /** A new object that has read a NET. */
    static FoldedWays withNet(String text) {
        FoldedWays x = new FoldedWays();
        type(x, text);
        due("net() of " + text, x.net(), (text.length() - 1) / 3 * 2);
        return x;
    }

    /** That a refused call left all as it was, as far as digest() tells. */
    static void refused(FoldedWays x, long before, String call, long got, long want) {
        due(call, got, want);
        due("digest() behind " + call, x.digest(), before);
    }

    static void end() {
        if (asked == 0 || wrong != 0) {
            System.out.println(wrong + " of " + asked + " answers are not as due");
            System.exit(1);
        }
    }
}
