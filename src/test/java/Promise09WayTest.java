/** Which WAY it is, of several, is told by TermsWays; here, what way() tells and refuses. */
@Section("Promise 9: way")
public final class Promise09WayTest {
    public static void main(String[] args) {
        Sentences.run(Promise09WayTest.class);
    }

    private static FoldedWays line() {
        return Check.withNet("6,01,12,23,34,45");
    }

    @Holds("A NODE of the WAY (place 0: from)")
    static void eachNodeOfIt() {
        FoldedWays x = line();
        for (int place = 0; place < 6; place++) {
            new Still(x).due("way(0, 5, " + place + ")", x.way(0, 5, place), place);
            Check.due("way(5, 0, " + place + ")", x.way(5, 0, place), 5 - place);
        }
        Check.due("way(2, 4, 0)", x.way(2, 4, 0), 2);
        Check.due("way(2, 4, 1)", x.way(2, 4, 1), 3);
        Check.due("way(2, 4, 2)", x.way(2, 4, 2), 4);
    }

    @Holds("A NODE of the WAY (place 0: from)")
    static void placeNoughtIsWhereItComesFrom() {
        FoldedWays x = line();
        for (int from = 0; from < 6; from++) {
            for (int to = 0; to < 6; to++) {
                Check.due("way(" + from + ", " + to + ", 0)", x.way(from, to, 0), from);
            }
        }
    }

    @Holds("NONE: there is no WAY")
    static void noWayBetweenParts() {
        FoldedWays x = Check.withNet("5,01,34");
        for (int place = -1; place < 6; place++) {
            Check.due("way(0, 3, " + place + ")", x.way(0, 3, place), FoldedWays.NONE);
            Check.due("way(3, 1, " + place + ")", x.way(3, 1, place), FoldedWays.NONE);
            Check.due("way(2, 0, " + place + ")", x.way(2, 0, place), FoldedWays.NONE);
            Check.due("way(0, 2, " + place + ")", x.way(0, 2, place), FoldedWays.NONE);
        }
        Check.due("way(3, 4, 1)", x.way(3, 4, 1), 4);
    }

    @Holds("or it has not so many (place below 0, too).")
    static void placeTooLarge() {
        FoldedWays x = line();
        for (int from = 0; from < 6; from++) {
            for (int to = 0; to < 6; to++) {
                int last = Math.abs(from - to);
                Check.due("way(" + from + ", " + to + ", " + last + ")", x.way(from, to, last), to);
                int[] no = {last + 1, last + 2, Integer.MAX_VALUE};
                for (int place : no) {
                    Check.due("way(" + from + ", " + to + ", " + place + ")", x.way(from, to, place), FoldedWays.NONE);
                }
            }
        }
    }

    @Holds("or it has not so many (place below 0, too).")
    static void placeBelowNought() {
        FoldedWays x = line();
        int[] no = {-1, -2, -6, Integer.MIN_VALUE + 1, Integer.MIN_VALUE};
        for (int place : no) {
            new Still(x).due("way(0, 5, " + place + ")", x.way(0, 5, place), FoldedWays.NONE);
            Check.due("way(4, 4, " + place + ")", x.way(4, 4, place), FoldedWays.NONE);
            Check.due("way(1, 0, " + place + ")", x.way(1, 0, place), FoldedWays.NONE);
        }
    }

    @Holds("UNKNOWN: from, to.")
    static void fromTooSmallOrTooLarge() {
        FoldedWays x = Check.withNet("5,01,34");
        for (int from : Check.outside(0, 4)) {
            new Still(x).due("way(" + from + ", 0, 0)", x.way(from, 0, 0), FoldedWays.UNKNOWN);
            Check.due("way(" + from + ", 0, -1)", x.way(from, 0, -1), FoldedWays.UNKNOWN);
        }
    }

    @Holds("UNKNOWN: from, to.")
    static void toTooSmallOrTooLarge() {
        FoldedWays x = Check.withNet("5,01,34");
        for (int to : Check.outside(0, 4)) {
            new Still(x).due("way(0, " + to + ", 0)", x.way(0, to, 0), FoldedWays.UNKNOWN);
            Check.due("way(0, " + to + ", 9)", x.way(0, to, 9), FoldedWays.UNKNOWN);
            Check.due("way(" + to + ", " + to + ", 0)", x.way(to, to, 0), FoldedWays.UNKNOWN);
        }
    }

    @Holds("UNKNOWN: from, to.")
    static void asManyNodesAsTheNetHas() {
        for (int many = 2; many <= 6; many++) {
            FoldedWays x = Check.withNet(many + ",01");
            Check.due("the last NODE", x.way(many - 1, many - 1, 6), FoldedWays.NONE);
            Check.due("from one more", x.way(many, 0, 0), FoldedWays.UNKNOWN);
            Check.due("to one more", x.way(0, many, 0), FoldedWays.UNKNOWN);
        }
        Check.due("without a NET", new FoldedWays().way(0, 1, 0), FoldedWays.UNKNOWN);
    }
}
