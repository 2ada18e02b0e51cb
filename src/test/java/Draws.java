/** The DRAWS from SEED 1 on, ahead of their rest by WIDTH: those of rand() as the C standard shows it. */
final class Draws {
    private static final int[] FROM_ONE = {16838, 5758, 10113, 17515, 31051, 5627, 23010, 7419, 16212, 4086, 2749,
        12767, 9084, 12060, 32225, 17543, 25089, 21183, 25137, 25566, 26966, 4978, 20495, 10311, 11367, 30054,
        17031, 13145, 19882, 25736, 30524, 28505, 28394, 22102, 24851, 19067, 12754, 11653, 6561, 27096, 13628,
        15188, 32085, 4143, 6967, 31406, 24165, 13403, 25562, 24834, 31353, 920, 10444, 24803, 7962, 19318, 1422,
        31327, 10457, 1945, 14479, 29983, 18751, 3894, 18670, 8259, 16248, 7757, 15629, 13306, 28606, 13990};

    private Draws() {
    }

    /** The MARK of the given number in a VARIANT (the LINKS, then the BUNDLES) of a NET of so many LINKS. */
    static long mark(int number, int variant, int links, int drawn, int width) {
        int first = (variant * (links + 4) + number) * drawn;
        long bits = 0;
        for (int i = first; i < first + drawn; i++) {
            bits |= 1L << FROM_ONE[i] % width;
        }
        return bits;
    }
}
