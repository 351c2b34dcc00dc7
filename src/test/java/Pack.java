/** Packs three arrays or three shifts into the ints that `statement` takes. */
final class Pack {
    static final int NO_SHIFT = shifts(0, 0, 0);

    private Pack() {
    }

    static int arrays(int target, int x, int y) {
        return target | x << 2 | y << 4;
    }

    static int shifts(int target, int x, int y) {
        return (target + 4) | (x + 4) << 4 | (y + 4) << 8;
    }
}
