/** The wrong numbers that the boundary tests hand to every call. */
final class Edges {
    /**
     * Far outside on both sides: the least and the greatest int, and numbers that would look right if only their low bits
     * were read, or if 32 * s + 2 * d + p wrapped around.
     */
    private static final int[] FAR = {
        Integer.MIN_VALUE, Integer.MIN_VALUE + 1, Integer.MIN_VALUE + 3, -(1 << 27), -65536, -256, -32, -16, -3, -2,
        32, 256, 256 + 3, 65536, 65536 + 3, 1 << 27, 1 << 30, Integer.MAX_VALUE - 1, Integer.MAX_VALUE};

    private Edges() {
    }

    /** The first refused numbers on each side of least .. greatest, and the far ones. */
    static int[] outside(int least, int greatest) {
        int[] result = new int[FAR.length + 3];
        System.arraycopy(FAR, 0, result, 0, FAR.length);
        result[FAR.length] = least - 1;
        result[FAR.length + 1] = greatest + 1;
        result[FAR.length + 2] = greatest + 2;
        return result;
    }

    /** A list of rules that do not overlap: rule k matches s = k alone, with k + 1 values of d, and allows if k is odd. */
    static RuleAnomaly listOf(int size) {
        RuleAnomaly x = new RuleAnomaly();
        for (int k = 0; k < size; k++) {
            Check.due("insert at the end", k + 1, Check.add(x, k, k % 2, k, k, 0, k, 2));
        }
        return x;
    }
}
