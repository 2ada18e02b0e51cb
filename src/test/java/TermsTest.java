/** The tests of the Terms are in several classes, by what they are of. */
@Section("Terms")
public final class TermsTest {
    public static void main(String[] args) {
        Sentences.run(TermsTest.class, TermsMarks.class, TermsWays.class, TermsBundles.class, TermsSpread.class,
                TermsBest.class, TermsOdds.class, TermsRefusals.class);
    }
}
