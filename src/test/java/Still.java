/** An object that is to stay as it is, as far as digest() tells. */
final class Still {
    private final FoldedWays x;
    private final long before;

    Still(FoldedWays x) {
        this.x = x;
        before = x.digest();
    }

    void due(String call, long got, long want) {
        Check.due(call, got, want);
        Check.due("digest() behind " + call, x.digest(), before);
    }
}
