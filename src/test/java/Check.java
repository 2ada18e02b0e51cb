import java.math.BigInteger;
import java.util.Arrays;
import java.util.stream.IntStream;

/** What the tests share: counts answers that are not as due, types texts, names numbers that are wrong. */
final class Check {
    private static int wrong = 0;
    private static int asked = 0;

    private Check() {
    }

    static void due(String call, long got, long want) {
        asked++;
        if (got != want) {
            wrong++;
            System.out.println(call + " answered " + got + ", due is " + want);
        }
    }

    static void due(String what, boolean holds) {
        due(what, holds ? 1 : 0, 1);
    }

    static int asked() {
        return asked;
    }

    static int wrong() {
        return wrong;
    }

    static void type(FoldedWays x, String text) {
        for (int i = 0; i < text.length(); i++) {
            x.letter(text.charAt(i));
        }
    }

    /** A new object with THE PAGE as told. */
    static FoldedWays withPage(String text) {
        FoldedWays x = new FoldedWays();
        type(x, text);
        return x;
    }

    /** A new object that has read a NET. */
    static FoldedWays withNet(String text) {
        FoldedWays x = withPage(text);
        due("net() of " + text, x.net(), (text.length() - 1) / 3 * 2);
        return x;
    }

    static FoldedWays withNet(String text, int width, int drawn, int seed) {
        FoldedWays x = withNet(text);
        x.set(0, width);
        x.set(1, drawn);
        x.set(2, seed);
        return x;
    }

    /** Numbers that are not from the least to the most: the nearest ones, the farthest, some between. */
    static int[] outside(int least, int most) {
        IntStream all = Arrays.stream(new int[] {least - 1, least - 2, most + 1, most + 2, -1, -2, 32, 33, 256 + least,
            65536 + most, -1001, Integer.MIN_VALUE, Integer.MIN_VALUE + 1, Integer.MAX_VALUE - 1, Integer.MAX_VALUE});
        return all.filter(number -> number < least || number > most).distinct().toArray();
    }

    /** 31 times h, and each number, without any wrapping but at the end. */
    static long digestOf(long... numbers) {
        BigInteger h = BigInteger.valueOf(1693);
        for (long number : numbers) {
            h = h.multiply(BigInteger.valueOf(31)).add(BigInteger.valueOf(number));
        }
        return h.longValue();
    }

    static void end() {
        if (asked == 0 || wrong != 0) {
            System.out.println(wrong + " of " + asked + " answers are not as due");
            System.exit(1);
        }
    }
}
