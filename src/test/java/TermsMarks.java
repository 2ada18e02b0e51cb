/** LINKS, WIDTH, DRAWN, SEED, MARKS, DRAWS. */
final class TermsMarks {
    private static final String EIGHT = "6,01,12,23,34,45,50,02,31";

    private TermsMarks() {
    }

    private static void ends(FoldedWays x, int link, int from, int to) {
        Check.due("link(" + link + ", 0)", x.link(link, 0), from);
        Check.due("link(" + link + ", 1)", x.link(link, 1), to);
    }

    @Holds("Of each of these, numbered from 0 as they come, there are two LINKS: 2 * number from the first NODE to the "
            + "second one, and that and 1 back.")
    static void twoLinksOfThePairsAsTheyCome() {
        FoldedWays x = Check.withNet(EIGHT);
        ends(x, 0, 0, 1);
        ends(x, 1, 1, 0);
        ends(x, 10, 5, 0);
        ends(x, 11, 0, 5);
        ends(x, 14, 3, 1);
        ends(x, 15, 1, 3);
        Check.due("no other", x.link(16, 0), FoldedWays.UNKNOWN);
    }

    @Holds("WIDTH (8 to 40; 16 at first)")
    static void widthFrom8To40And16AtFirst() {
        FoldedWays x = new FoldedWays();
        Check.due("at first", x.count(3), 16);
        Check.due("7", x.set(0, 7), FoldedWays.OUTSIDE);
        Check.due("8", x.set(0, 8), 16);
        Check.due("40", x.set(0, 40), 8);
        Check.due("41", x.set(0, 41), FoldedWays.OUTSIDE);
        Check.due("at last", x.count(3), 40);
    }

    @Holds("DRAWN (1 to 4; 3 at first)")
    static void drawnFrom1To4And3AtFirst() {
        FoldedWays x = new FoldedWays();
        Check.due("at first", x.count(4), 3);
        Check.due("0", x.set(1, 0), FoldedWays.OUTSIDE);
        Check.due("1", x.set(1, 1), 3);
        Check.due("4", x.set(1, 4), 1);
        Check.due("5", x.set(1, 5), FoldedWays.OUTSIDE);
        Check.due("at last", x.count(4), 4);
    }

    @Holds("and a SEED (0 and more; 1 at first)")
    static void seedFromNoughtOnAnd1AtFirst() {
        FoldedWays x = new FoldedWays();
        Check.due("at first", x.count(5), 1);
        Check.due("-1", x.set(2, -1), FoldedWays.OUTSIDE);
        Check.due("0", x.set(2, 0), 1);
        Check.due("the greatest int", x.set(2, Integer.MAX_VALUE), 0);
        Check.due("at last", x.count(5), Integer.MAX_VALUE);
    }

    @Holds("are of all.")
    static void settingsAreOfAllNets() {
        FoldedWays x = Check.withNet("3,01,12", 9, 2, 5);
        Check.type(x, EIGHT);
        x.net();
        FoldedWays alike = Check.withNet(EIGHT, 9, 2, 5);
        for (int link = 0; link < 16; link++) {
            for (int variant = 0; variant < 3; variant++) {
                Check.due("mark(" + link + ", " + variant + ")", x.mark(link, variant), alike.mark(link, variant));
            }
        }
    }

    @Holds("MARKS: there are three VARIANTS (0 to 2).")
    static void threeVariants() {
        FoldedWays x = Check.withNet("3,01,12");
        Check.due("-1", x.mark(0, -1), FoldedWays.OUTSIDE);
        for (int variant = 0; variant < 3; variant++) {
            Check.due("" + variant, x.mark(0, variant), Draws.mark(0, variant, 4, 3, 16));
        }
        Check.due("3", x.mark(0, 3), FoldedWays.OUTSIDE);
    }

    @Holds("A MARK is some of the bits 0 to WIDTH - 1.")
    static void bitsFromNoughtToTheLastOfWidth() {
        for (int width = 8; width <= 40; width++) {
            long seen = 0;
            for (int seed = 0; seed < 8; seed++) {
                FoldedWays x = Check.withNet(EIGHT, width, 4, seed);
                for (int number = 0; number < 48; number++) {
                    long mark = x.mark(number / 3, number % 3);
                    Check.due("some bits", mark != 0);
                    seen |= mark;
                }
            }
            Check.due("all bits of WIDTH " + width + ", no other", seen, (1L << width) - 1);
        }
    }

    @Holds({"They are drawn from the SEED on: of each VARIANT, in it of each LINK by number, then of each of four BUNDLES",
        "so often as DRAWN says, a bit by a DRAW of WIDTH"})
    static void inTheirOrderByEachWidthAndDrawn() {
        for (int width = 8; width <= 40; width++) {
            for (int drawn = 1; drawn <= 4; drawn++) {
                FoldedWays x = Check.withNet("2,01", width, drawn, 1);
                for (int number = 0; number < 18; number++) {
                    orderOf(x, number % 6, number / 6, drawn, width);
                }
            }
        }
    }

    private static void orderOf(FoldedWays x, int number, int variant, int drawn, int width) {
        String at = " in VARIANT " + variant + ", DRAWN " + drawn + ", WIDTH " + width;
        long want = Draws.mark(number, variant, 2, drawn, width);
        if (number < 2) {
            Check.due("mark of LINK " + number + at, x.mark(number, variant), want);
        } else {
            x.bind(number - 2, 0, 2);
            Check.due("mark of BUNDLE " + (number - 2) + at, x.bound(number - 2, variant), want);
        }
    }

    @Holds("(numbers 0 to 3, whether they are there or not)")
    static void bundlesThatAreNotThereAreDrawnToo() {
        FoldedWays none = Check.withNet("3,01,12");
        FoldedWays all = Check.withNet("3,01,12");
        for (int place = 0; place < 4; place++) {
            all.bind(place, 0, 4);
        }
        FoldedWays last = Check.withNet("3,01,12");
        last.bind(3, 0, 4);
        for (int variant = 0; variant < 3; variant++) {
            Check.due("LINK, none there", none.mark(3, variant), Draws.mark(3, variant, 4, 3, 16));
            Check.due("LINK, all there", all.mark(3, variant), none.mark(3, variant));
            Check.due("BUNDLE, it alone there", last.bound(3, variant), all.bound(3, variant));
        }
    }

    @Holds("(what is drawn twice is one bit)")
    static void drawnTwiceIsOneBit() {
        // SEED 0, WIDTH 8, DRAWN 2: the seventh and eighth DRAW, of LINK 3, are both 5
        FoldedWays x = Check.withNet("3,01,12", 8, 2, 0);
        Check.due("two bits", x.mark(0, 0), 1 | 16);
        Check.due("one bit", x.mark(3, 0), 32);
        // SEED 0: 12345 / 65536 is 0, then 21468
        FoldedWays once = Check.withNet("2,01", 8, 1, 0);
        Check.due("the bit 0", once.mark(0, 0), 1);
    }

    @Holds("DRAWS: the next SEED each time: the rest by 2 to the 31 of 1103515245 times it and 12345; then that by 65536 "
            + "(rounded down), its rest.")
    static void fromTheLeastSeed() {
        FoldedWays x = Check.withNet("2,01", 16, 1, 0);
        Check.due("12345 by 65536 is 0", x.mark(0, 0), 1);
        // 1103515245 * 12345 + 12345 is 13622895711870, its rest by 2 to the 31 is 1406932606
        Check.due("1406932606 by 65536 is 21468", x.mark(1, 0), 1L << 21468 % 16);
    }

    @Holds("DRAWS: the next SEED each time: the rest by 2 to the 31 of 1103515245 times it and 12345; then that by 65536 "
            + "(rounded down), its rest.")
    static void fromTheGreatestSeed() {
        FoldedWays x = Check.withNet("2,01", 16, 1, Integer.MAX_VALUE);
        // as if it were -1: 2 to the 31, less 1103515245, and 12345
        Check.due("1043980748 by 65536 is 15929", x.mark(0, 0), 1L << 15929 % 16);
        FoldedWays wide = Check.withNet("2,01", 40, 1, Integer.MAX_VALUE);
        Check.due("by 40", wide.mark(0, 0), 1L << 15929 % 40);
    }

    @Holds("DRAWS: the next SEED each time: the rest by 2 to the 31 of 1103515245 times it and 12345; then that by 65536 "
            + "(rounded down), its rest.")
    static void eachDrawIsTheNextSeed() {
        FoldedWays first = Check.withNet("2,01", 16, 1, 1);
        Check.due("1103527590 by 65536 is 16838", first.mark(0, 0), 1L << 16838 % 16);
        FoldedWays next = Check.withNet("2,01", 16, 1, 1103527590);
        Check.due("the second DRAW is its first", next.mark(0, 0), first.mark(1, 0));
        Check.due("377401575 by 65536 is 5758", next.mark(0, 0), 1L << 5758 % 16);
    }

    @Holds("MARKS are always those by WIDTH, DRAWN, SEED, LINKS as they are.")
    static void theyFollowEachSetting() {
        FoldedWays x = Check.withNet("2,01");
        x.bind(2, 0, 2);
        Check.due("at first", x.mark(1, 2), Draws.mark(1, 2, 2, 3, 16));
        x.set(0, 11);
        Check.due("WIDTH", x.mark(1, 2), Draws.mark(1, 2, 2, 3, 11));
        Check.due("WIDTH, of a BUNDLE", x.bound(2, 2), Draws.mark(4, 2, 2, 3, 11));
        x.set(1, 2);
        Check.due("DRAWN", x.mark(1, 2), Draws.mark(1, 2, 2, 2, 11));
        Check.due("DRAWN, of a BUNDLE", x.bound(2, 2), Draws.mark(4, 2, 2, 2, 11));
        x.set(2, 0);
        Check.due("SEED", x.mark(0, 0) != Draws.mark(0, 0, 2, 2, 11));
        x.set(2, 1);
        Check.due("SEED, again", x.mark(1, 2), Draws.mark(1, 2, 2, 2, 11));
    }

    @Holds("MARKS are always those by WIDTH, DRAWN, SEED, LINKS as they are.")
    static void theyFollowTheLinks() {
        FoldedWays x = Check.withNet("3,01,12");
        Check.due("of four", x.mark(1, 1), Draws.mark(1, 1, 4, 3, 16));
        Check.type(x, "3,01");
        x.net();
        Check.due("of two", x.mark(1, 1), Draws.mark(1, 1, 2, 3, 16));
        Check.type(x, "4,23,02,13");
        x.net();
        Check.due("of six", x.mark(1, 1), Draws.mark(1, 1, 6, 3, 16));
    }

    @Holds("MARKS are always those by WIDTH, DRAWN, SEED, LINKS as they are.")
    static void askingDoesNotDrawOn() {
        FoldedWays x = Check.withNet("3,01,12");
        long first = x.mark(0, 0);
        x.mark(3, 2);
        x.fold(0, 7, 1, true);
        x.send(0, 7, true);
        x.digest();
        Check.due("the same again", x.mark(0, 0), first);
        Check.due("SEED", x.count(5), 1);
    }
}
