/** Numbers just outside what the document allows, and far ones that a mask or a wrap would bring back in. */
final class Outside {
    static final int[] ARRAYS = {-1, 3, 4, 256, 1 << 27, Integer.MIN_VALUE, Integer.MAX_VALUE};
    static final int[] CELLS = {-1, 32, -32, 63, 95, 96, 256, Integer.MIN_VALUE, Integer.MAX_VALUE};
    static final int[] OPS = {-1, 7, 8, 13, 256, 65536, Integer.MIN_VALUE, Integer.MAX_VALUE};
    static final int[] DISTANCES = {-1, 9, -2, -8, 16, 256, Integer.MIN_VALUE, Integer.MAX_VALUE};

    private Outside() {
    }

    static int[] statements(int size) {
        return new int[] {-1, size, 4, 256, Integer.MIN_VALUE, Integer.MAX_VALUE};
    }
}
