/** Promises 1 to 5: a new object, letter, blank, fault, net. */
public final class TextsTest {
    public static void main(String[] args) {
        newObject();
        letters();
        blanks();
        faults();
        secondDigits();
        nets();
        netAgain();
        Check.end();
    }

    private static void newObject() {
        FoldedWays x = new FoldedWays();
        int[] want = {0, 0, 0, 16, 3, 1, 0, 0, 0, 0, 0, 0};
        long h = 1693;
        for (int what = 0; what < want.length; what++) {
            Check.due("new: count(" + what + ")", x.count(what), want[what]);
            h = 31 * h + want[what];
        }
        Check.due("new: digest()", x.digest(), h);
        Check.due("new: mark", x.mark(0, 0), FoldedWays.UNKNOWN);
        Check.due("new: link", x.link(0, 0), FoldedWays.UNKNOWN);
        Check.due("new: way", x.way(0, 0, 0), FoldedWays.UNKNOWN);
        Check.due("new: tree", x.tree(0, 0), FoldedWays.UNKNOWN);
        Check.due("new: bind", x.bind(0, 0, 0), FoldedWays.UNKNOWN);
        Check.due("new: loosen", x.loosen(0), FoldedWays.STATE);
        Check.due("new: bound", x.bound(0, 0), FoldedWays.UNKNOWN);
        Check.due("new: fold", x.fold(0, 0, 0, true), FoldedWays.UNKNOWN);
        Check.due("new: spread", x.spread(0, 0, 0, true, 0), FoldedWays.UNKNOWN);
        Check.due("new: best", x.best(0, 0, true), FoldedWays.UNKNOWN);
        Check.due("new: send", x.send(0, 0, true), FoldedWays.UNKNOWN);
        Check.due("new: fault", x.fault(), 0);
        Check.due("new: blank", x.blank(), 0);
        Check.due("new: net", x.net(), FoldedWays.STATE);
    }

    private static void letters() {
        FoldedWays x = new FoldedWays();
        int[] wrong = {31, 127, -1, 0, 255, 32 + 256, Integer.MIN_VALUE, Integer.MAX_VALUE};
        for (int code : wrong) {
            Check.refused(x, x.digest(), "letter(" + code + ")", x.letter(code), FoldedWays.OUTSIDE);
        }
        Check.due("letter(32)", x.letter(32), 1);
        Check.due("letter(126)", x.letter(126), 2);
        for (int many = 3; many <= 25; many++) {
            Check.due("letter " + many, x.letter('x'), many);
        }
        long before = x.digest();
        Check.refused(x, before, "letter 26", x.letter('x'), FoldedWays.FULL);
        Check.refused(x, before, "letter 26, wrong", x.letter(127), FoldedWays.OUTSIDE);
        Check.due("count(2)", x.count(2), 25);
    }

    private static void blanks() {
        FoldedWays x = new FoldedWays();
        long empty = x.digest();
        Check.type(x, "3,0");
        Check.due("blank()", x.blank(), 3);
        Check.due("blank() again", x.blank(), 0);
        Check.due("digest() when blank", x.digest(), empty);
        Check.due("letter() when blank", x.letter('3'), 1);
    }

    private static void fault(String text, int want) {
        FoldedWays x = new FoldedWays();
        Check.type(x, text);
        long before = x.digest();
        Check.refused(x, before, "fault() of " + text, x.fault(), want);
        boolean isNet = want == text.length() && text.length() >= 4 && text.length() % 3 == 1;
        Check.due("net() of " + text, x.net(), isNet ? (text.length() - 1) / 3 * 2 : FoldedWays.STATE);
        Check.due("letters behind net() of " + text, x.count(2), isNet ? 0 : text.length());
    }

    private static void faults() {
        fault("", 0);
        for (char code = 32; code <= 126; code++) {
            boolean isCount = code >= '2' && code <= '6';
            fault("" + code, isCount ? 1 : 0);
            fault("4" + code, code == ',' ? 2 : 1);
            boolean isNode = code >= '0' && code <= '3';
            fault("4," + code, isNode ? 3 : 2);
            fault("4,1" + code, isNode && code != '1' ? 4 : 3);
            fault("4,10" + code, code == ',' ? 5 : 4);
        }
        fault("2,02", 3);
        fault("2,20", 2);
        fault("6,05,54", 7);
        fault("6,06", 3);
        fault("5,01,34", 7);
        fault("7,01", 0);
        fault("1,00", 0);
        fault("4;01", 1);
        fault(" 4,01", 0);
        fault("4,01,", 5);
        fault("4,01,2", 6);
        fault("4,01,22", 6);
        fault("4,01x12", 4);
        fault("zzzzzzzzzzzzzzzzzzzzzzzzz", 0);
    }

    private static void secondDigits() {
        fault("3,01,01", 6);
        fault("3,01,10", 6);
        fault("6,01,23,45,10", 12);
        fault("6,01,23,45,32", 12);
        fault("6,01,23,45,45", 12);
        // where no other pair is left the second digit is wrong all the same, not the first or ','
        fault("2,01,", 5);
        fault("2,01,0", 6);
        fault("2,01,1", 6);
        fault("2,01,10", 6);
        fault("2,10,01", 6);
        fault("3,01,12,20,", 11);
        fault("3,01,12,20,2", 12);
        fault("3,01,12,20,21", 12);
        fault("3,01,02,0", 9);
        fault("3,01,02,01", 9);
        fault("3,01,02,12", 10);
    }

    private static void nets() {
        FoldedWays x = new FoldedWays();
        Check.type(x, "6,01,12,23,34,45,50,02,31");
        Check.due("net of eight", x.net(), 16);
        Check.due("NODES", x.count(0), 6);
        Check.due("LINKS", x.count(1), 16);
        Check.due("letters", x.count(2), 0);
        Check.due("NETS", x.count(7), 1);
        Check.due("link(15, 0)", x.link(15, 0), 1);
        Check.due("link(15, 1)", x.link(15, 1), 3);
        long before = x.digest();
        Check.refused(x, before, "net() of nothing", x.net(), FoldedWays.STATE);
        fault("2,01", 4);
        fault("2,10", 4);
    }

    private static void netAgain() {
        FoldedWays x = Check.withNet("6,01,12,23,34,45,50,02,31");
        x.set(0, 8);
        x.set(1, 1);
        x.set(2, 9);
        x.send(0, 63, false);
        for (int place = 0; place < 4; place++) {
            Check.due("bind", x.bind(place, 0, 2), 1);
        }
        int[] counted = new int[12];
        for (int what = 0; what < 12; what++) {
            counted[what] = x.count(what);
        }
        Check.type(x, "3,20");
        Check.due("another net", x.net(), 2);
        int[] now = {3, 2, 0, 8, 1, 9, 0, 2};
        for (int what = 0; what < 12; what++) {
            Check.due("another net: count(" + what + ")", x.count(what), what < 8 ? now[what] : counted[what]);
        }
        for (int place = 0; place < 4; place++) {
            Check.due("its BUNDLES are gone", x.loosen(place), FoldedWays.STATE);
        }
        Check.due("link(0, 0)", x.link(0, 0), 2);
        Check.due("link(1, 0)", x.link(1, 0), 0);
        Check.due("link(2, 0)", x.link(2, 0), FoldedWays.UNKNOWN);
        Check.due("no WAY left", x.way(0, 1, 0), FoldedWays.NONE);
        Check.due("tree(0, 7)", x.tree(0, 7), 2);
        FoldedWays alike = new FoldedWays();
        alike.set(0, 8);
        alike.set(1, 1);
        alike.set(2, 9);
        Check.type(alike, "3,20");
        alike.net();
        for (int variant = 0; variant < 3; variant++) {
            Check.due("MARKS by LINKS as they are", x.mark(1, variant), alike.mark(1, variant));
        }
    }
}
