@Section("Promise 2: letter")
public final class Promise02LetterTest {
    public static void main(String[] args) {
        Sentences.run(Promise02LetterTest.class);
    }

    private static FoldedWays full() {
        return Check.withPage("abcdefghijklmnopqrstuvwxy");
    }

    @Holds("A letter comes behind THE PAGE, by its code: how many THE PAGE has.")
    static void eachOneIsOneMore() {
        FoldedWays x = new FoldedWays();
        for (int many = 1; many <= 25; many++) {
            Check.due("letter " + many, x.letter('a'), many);
            Check.due("count(2)", x.count(2), many);
        }
    }

    @Holds("A letter comes behind THE PAGE, by its code: how many THE PAGE has.")
    static void itComesBehindThoseThatAreThere() {
        FoldedWays x = new FoldedWays();
        x.letter('4');
        x.letter('~');
        Check.due("digest()", x.digest(), Check.digestOf('4', '~', 0, 0, 2, 16, 3, 1, 0, 0, 0, 0, 0, 0));
        x.letter(' ');
        Check.due("digest()", x.digest(), Check.digestOf('4', '~', ' ', 0, 0, 3, 16, 3, 1, 0, 0, 0, 0, 0, 0));
    }

    @Holds("A letter comes behind THE PAGE, by its code: how many THE PAGE has.")
    static void eachCodeIsKeptAsItIs() {
        for (int code = 32; code <= 126; code++) {
            FoldedWays x = new FoldedWays();
            Check.due("letter(" + code + ")", x.letter(code), 1);
            Check.due("digest()", x.digest(), Check.digestOf(code, 0, 0, 1, 16, 3, 1, 0, 0, 0, 0, 0, 0));
        }
    }

    @Holds("OUTSIDE: code (32 to 126)")
    static void theLeastCode() {
        FoldedWays x = new FoldedWays();
        new Still(x).due("letter(31)", x.letter(31), FoldedWays.OUTSIDE);
        Check.due("letter(32)", x.letter(32), 1);
    }

    @Holds("OUTSIDE: code (32 to 126)")
    static void theGreatestCode() {
        FoldedWays x = new FoldedWays();
        new Still(x).due("letter(127)", x.letter(127), FoldedWays.OUTSIDE);
        Check.due("letter(126)", x.letter(126), 1);
    }

    @Holds("OUTSIDE: code (32 to 126)")
    static void codesFarOff() {
        FoldedWays x = Check.withPage("4,0");
        Still still = new Still(x);
        for (int code : Check.outside(32, 126)) {
            still.due("letter(" + code + ")", x.letter(code), FoldedWays.OUTSIDE);
        }
        // '1' in the lowest eight or sixteen bits
        still.due("letter(305)", x.letter('1' + 256), FoldedWays.OUTSIDE);
        still.due("letter(65585)", x.letter('1' + 65536), FoldedWays.OUTSIDE);
        still.due("letter(-207)", x.letter('1' - 256), FoldedWays.OUTSIDE);
    }

    @Holds("FULL: there are 25.")
    static void theTwentySixthIsRefused() {
        FoldedWays x = Check.withPage("abcdefghijklmnopqrstuvwx");
        Check.due("the 25th", x.letter('y'), 25);
        Still still = new Still(x);
        still.due("the 26th", x.letter('z'), FoldedWays.FULL);
        still.due("the 26th, again", x.letter('0'), FoldedWays.FULL);
        Check.due("there are 25", x.count(2), 25);
    }

    @Holds("FULL: there are 25.")
    static void oneComesAgainWhenItIsEmpty() {
        FoldedWays x = full();
        x.blank();
        Check.due("the first behind blank()", x.letter('z'), 1);
        FoldedWays y = Check.withPage("6,01,12,23,34,45,50,02,31");
        Check.due("net()", y.net(), 16);
        Check.due("the first behind net()", y.letter('z'), 1);
    }

    @Holds({"OUTSIDE: code (32 to 126)", "FULL: there are 25."})
    static void outsideIsToldAheadOfFull() {
        FoldedWays x = full();
        Still still = new Still(x);
        still.due("letter(31) when full", x.letter(31), FoldedWays.OUTSIDE);
        still.due("letter(127) when full", x.letter(127), FoldedWays.OUTSIDE);
        still.due("letter(32) when full", x.letter(32), FoldedWays.FULL);
    }
}
