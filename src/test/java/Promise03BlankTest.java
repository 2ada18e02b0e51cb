@Section("Promise 3: blank")
public final class Promise03BlankTest {
    public static void main(String[] args) {
        Sentences.run(Promise03BlankTest.class);
    }

    @Holds("THE PAGE is empty: how many letters it had.")
    static void ofAnEmptyPage() {
        FoldedWays x = new FoldedWays();
        new Still(x).due("blank()", x.blank(), 0);
    }

    @Holds("THE PAGE is empty: how many letters it had.")
    static void ofSomeLetters() {
        for (int many = 1; many <= 25; many++) {
            FoldedWays x = Check.withPage("3,0abcdefghijklmnopqrstuvw".substring(0, many));
            Check.due("blank() of " + many, x.blank(), many);
            Check.due("letters", x.count(2), 0);
            Check.due("fault()", x.fault(), 0);
            Check.due("net()", x.net(), FoldedWays.STATE);
        }
    }

    @Holds("THE PAGE is empty: how many letters it had.")
    static void ofAFullPage() {
        FoldedWays x = Check.withPage("zzzzzzzzzzzzzzzzzzzzzzzzz");
        Check.due("letter 26", x.letter('z'), FoldedWays.FULL);
        Check.due("blank()", x.blank(), 25);
        Check.due("blank() again", x.blank(), 0);
        Check.due("letter()", x.letter('z'), 1);
    }

    @Holds("THE PAGE is empty: how many letters it had.")
    static void lettersThatWereThereAreGone() {
        FoldedWays x = Check.withPage("9~");
        x.blank();
        Check.type(x, "2,01");
        Check.due("net()", x.net(), 2);
    }

    @Holds("THE PAGE is empty: how many letters it had.")
    static void allElseStays() {
        FoldedWays x = Check.withNet("3,01,12", 8, 1, 7);
        x.bind(2, 0, 4);
        x.send(0, 4, true);
        long before = x.digest();
        Check.type(x, "5,4");
        Check.due("blank()", x.blank(), 3);
        Check.due("digest()", x.digest(), before);
    }
}
