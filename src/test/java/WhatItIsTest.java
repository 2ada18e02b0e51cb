/** What a NET is as a text, by where fault() finds it wrong and whether net() reads it. */
@Section("What it is")
public final class WhatItIsTest {
    private static final String EIGHT = "6,01,12,23,34,45,50,02,31";

    public static void main(String[] args) {
        Sentences.run(WhatItIsTest.class);
    }

    private static void isNet(String text) {
        FoldedWays x = Check.withPage(text);
        Check.due("fault() of " + text, x.fault(), text.length());
        Check.due("net() of " + text, x.net(), (text.length() - 1) / 3 * 2);
        Check.due("NODES of " + text, x.count(0), text.charAt(0) - '0');
    }

    /** It may become a NET, but is none yet. */
    private static void isBeginning(String text) {
        FoldedWays x = Check.withPage(text);
        Check.due("fault() of " + text, x.fault(), text.length());
        Check.due("net() of " + text, x.net(), FoldedWays.STATE);
    }

    private static void isWrong(String text, int place) {
        FoldedWays x = Check.withPage(text);
        Check.due("fault() of " + text, x.fault(), place);
        Check.due("net() of " + text, x.net(), FoldedWays.STATE);
    }

    @Holds("Links that are named by bits: each has marks, several to choose from; a way, or a tree of ways, folded "
            + "into one row of bits that is sent along; what each node sends on by it, what goes astray, where it comes "
            + "to a node again; the one of several foldings by which least goes astray; links bound together under a "
            + "mark of their own; how likely any mark is to match; nets as texts.")
    static void allThatItIsInOneRun() {
        FoldedWays x = Check.withNet("4,01,12,23,30");
        Check.due("a mark", x.mark(0, 0), 16450);
        Check.due("a way", x.way(0, 2, 1), 1);
        Check.due("a tree", x.tree(0, 4), 5);
        Check.due("folded", x.fold(0, 4, 0, false), 18518);
        Check.due("what is sent on", x.spread(0, 4, 0, false, 1), 3);
        Check.due("what goes astray", x.spread(0, 4, 0, false, 2), 1);
        Check.due("to a node again", x.spread(0, 4, 0, false, 3), 1);
        Check.due("how likely, above", x.spread(0, 4, 0, false, 6), 27);
        Check.due("how likely, below", x.spread(0, 4, 0, false, 7), 512);
        Check.due("least goes astray", x.best(0, 4, false), 1);
        Check.due("sent along", x.send(0, 4, false), 0);
        Check.due("bound together", x.bind(0, 0, 4), 2);
    }

    @Holds("A NET is a text: a digit 2 to 6, how many NODES (numbered from 0)")
    static void fewestNodesAreTwo() {
        isNet("2,01");
        isNet("2,10");
        isWrong("1,00", 0);
        isWrong("1,01", 0);
        isWrong("0,01", 0);
    }

    @Holds("A NET is a text: a digit 2 to 6, how many NODES (numbered from 0)")
    static void mostNodesAreSix() {
        isNet("6,05");
        isNet("6,54");
        isWrong("7,01", 0);
        isWrong("8,01", 0);
        isWrong("9,01", 0);
    }

    @Holds("A NET is a text: a digit 2 to 6, how many NODES (numbered from 0)")
    static void nothingButSuchADigitBeginsIt() {
        for (char code = 32; code <= 126; code++) {
            if (code >= '2' && code <= '6') {
                isNet(code + ",01");
            } else {
                isWrong(code + ",01", 0);
            }
        }
        isWrong(" 4,01", 0);
        isWrong("44,01", 1);
    }

    @Holds("A NET is a text: a digit 2 to 6, how many NODES (numbered from 0)")
    static void nodesAreNumberedFromNought() {
        for (int many = 2; many <= 6; many++) {
            isNet(many + ",0" + (many - 1));
            isNet(many + "," + (many - 1) + "0");
            isWrong(many + "," + many + "0", 2);
            isWrong(many + ",0" + many, 3);
        }
    }

    @Holds("then one to eight times \",\", the digits of two unlike NODES of it")
    static void onceAtLeast() {
        isBeginning("");
        for (int many = 2; many <= 6; many++) {
            isBeginning("" + many);
        }
        isNet("2,01");
    }

    @Holds("then one to eight times \",\", the digits of two unlike NODES of it")
    static void eightTimesAtMost() {
        for (int pairs = 1; pairs <= 8; pairs++) {
            isNet(EIGHT.substring(0, 1 + 3 * pairs));
        }
        FoldedWays x = Check.withPage(EIGHT);
        Check.due("a ninth ','", x.letter(','), FoldedWays.FULL);
        Check.due("eight all the same", x.net(), 16);
    }

    @Holds("then one to eight times \",\", the digits of two unlike NODES of it")
    static void nothingButACommaStandsAheadOfADigitPair() {
        for (char code = 32; code <= 126; code++) {
            if (code != ',') {
                isWrong("4" + code + "01", 1);
                isWrong("4,01" + code + "12", 4);
            }
        }
    }

    @Holds("then one to eight times \",\", the digits of two unlike NODES of it")
    static void aPairHasBothDigits() {
        isBeginning("4,");
        isBeginning("4,0");
        isBeginning("4,01,");
        isBeginning("4,01,1");
        isBeginning(EIGHT.substring(0, 24));
        isWrong("4,0,12", 3);
        isWrong("4,,12", 2);
        isWrong("4,012", 4);
    }

    @Holds("then one to eight times \",\", the digits of two unlike NODES of it")
    static void theFirstDigitIsANodeOfIt() {
        for (char code = 32; code <= 126; code++) {
            if (code < '0' || code > '3') {
                isWrong("4," + code + "0", 2);
                isWrong("4,32," + code + "0", 5);
            }
        }
    }

    @Holds("then one to eight times \",\", the digits of two unlike NODES of it")
    static void theSecondDigitIsANodeOfIt() {
        for (char code = 32; code <= 126; code++) {
            if (code < '0' || code > '3') {
                isWrong("4,0" + code, 3);
                isWrong("4,32,0" + code, 6);
            }
        }
    }

    @Holds("then one to eight times \",\", the digits of two unlike NODES of it")
    static void theTwoAreUnlike() {
        for (int node = 0; node < 6; node++) {
            isWrong("6," + node + node, 3);
        }
        isWrong("2,01,00", 6);
        isWrong("4,01,22", 6);
    }

    @Holds("no two of them twice (in whichever order: the second digit is wrong then")
    static void notTwiceInTheSameOrder() {
        isWrong("3,01,01", 6);
        isWrong("6,01,23,45,01", 12);
        isWrong("6,01,23,45,23", 12);
        isWrong("6,01,23,45,45", 12);
        isWrong(EIGHT.substring(0, 22) + ",01", 24);
        isWrong(EIGHT.substring(0, 22) + ",02", 24);
    }

    @Holds("no two of them twice (in whichever order: the second digit is wrong then")
    static void notTwiceInTheOtherOrder() {
        isWrong("3,01,10", 6);
        isWrong("6,01,23,45,10", 12);
        isWrong("6,01,23,45,32", 12);
        isWrong("6,01,23,45,54", 12);
        isWrong(EIGHT.substring(0, 22) + ",10", 24);
        isWrong(EIGHT.substring(0, 22) + ",20", 24);
    }

    @Holds("no two of them twice (in whichever order: the second digit is wrong then")
    static void oneOfTheTwoMayComeAgain() {
        isNet("3,01,02");
        isNet("3,01,12");
        isNet("3,01,20");
        isNet("3,01,21");
        isNet("4,01,23,02,13,03,12");
    }

    @Holds("also where no other one is left).")
    static void neitherCommaNorFirstDigitIsWrongWhereNoneIsLeft() {
        isBeginning("2,01,");
        isBeginning("2,01,0");
        isBeginning("2,01,1");
        isBeginning("2,10,0");
        isBeginning("3,01,12,20,");
        isBeginning("3,01,12,20,2");
        // NODE 0 has no other one left, though 1 and 2 have
        isBeginning("3,01,02,0");
    }

    @Holds("also where no other one is left).")
    static void theSecondDigitIsWrongWhereNoneIsLeft() {
        isWrong("2,01,01", 6);
        isWrong("2,01,10", 6);
        isWrong("2,10,01", 6);
        isWrong("2,10,11", 6);
        isWrong("3,01,12,20,21", 12);
        isWrong("3,01,12,20,22", 12);
        isWrong("3,01,02,00", 9);
        isWrong("3,01,02,01", 9);
        isWrong("3,01,02,02", 9);
        isNet("3,01,02,12");
    }

    @Holds("An object is used for at most 512 calls after it has been made; what later calls answer is free.")
    static void theLastOf512CallsAnswersAsDue() {
        FoldedWays x = new FoldedWays();
        Check.type(x, "2,01");
        Check.due("call 5, net()", x.net(), 2);
        for (int call = 6; call < 512; call++) {
            Check.due("call " + call + ", send()", x.send(0, 0, call % 2 == 0), 0);
        }
        Check.due("call 512, count(8)", x.count(8), 506);
    }
}
