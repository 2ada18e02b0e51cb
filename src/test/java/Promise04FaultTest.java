/** Which texts are wrong where is told by WhatItIsTest; here, what fault() says of them. */
@Section("Promise 4: fault")
public final class Promise04FaultTest {
    private static final String EIGHT = "6,01,12,23,34,45,50,02,31";

    public static void main(String[] args) {
        Sentences.run(Promise04FaultTest.class);
    }

    private static void fault(String text, int want) {
        FoldedWays x = Check.withPage(text);
        new Still(x).due("fault() of " + text, x.fault(), want);
    }

    @Holds("The place (from 0) of the first letter of THE PAGE with which, and those ahead of it, no NET begins")
    static void eachPlaceFromNought() {
        for (int place = 0; place < 25; place++) {
            fault(EIGHT.substring(0, place) + "x", place);
            fault(EIGHT.substring(0, place) + "x" + EIGHT.substring(place + 1), place);
        }
    }

    @Holds("The place (from 0) of the first letter of THE PAGE with which, and those ahead of it, no NET begins")
    static void ofSeveralWrongOnesTheFirst() {
        fault("zzzzzzzzzzzzzzzzzzzzzzzzz", 0);
        fault("9,99", 0);
        fault("4,99", 2);
        fault("4,01,11,11", 6);
        fault("3,01x10,9", 4);
    }

    @Holds("The place (from 0) of the first letter of THE PAGE with which, and those ahead of it, no NET begins")
    static void twoThatCameAheadInEitherOrder() {
        fault("3,01,01", 6);
        fault("3,01,10", 6);
        fault("3,12,01,21", 9);
        fault("3,12,01,12", 9);
    }

    @Holds("The place (from 0) of the first letter of THE PAGE with which, and those ahead of it, no NET begins")
    static void whatComesBehindDoesNotMend() {
        fault("4,0", 3);
        fault("4,00", 3);
        fault("4,001", 3);
        fault("4,00,01", 3);
    }

    @Holds("how many letters it has, if there is none.")
    static void ofAnEmptyPage() {
        fault("", 0);
    }

    @Holds("how many letters it has, if there is none.")
    static void ofABeginningAndOfANet() {
        for (int many = 0; many <= 25; many++) {
            fault(EIGHT.substring(0, many), many);
        }
    }

    @Holds("how many letters it has, if there is none.")
    static void ofAFullPage() {
        FoldedWays x = Check.withPage(EIGHT);
        Check.due("letter 26", x.letter(','), FoldedWays.FULL);
        Check.due("fault()", x.fault(), 25);
    }

    @Holds("how many letters it has, if there is none.")
    static void aNetThatIsThereDoesNotCount() {
        FoldedWays x = Check.withNet("2,01");
        Check.due("fault() behind net()", x.fault(), 0);
        Check.type(x, "6,5");
        Check.due("fault() of a greater one", x.fault(), 3);
    }
}
