/** Loops over arrays, run in lanes of four where that can't be seen. */
public final class LaneLoops {
    public static final int BAD_ARRAY = -1;
    public static final int BAD_SHIFT = -2;
    public static final int BAD_OP = -3;
    public static final int FULL = -4;
    public static final int BAD_CELL = -5;

    private static final int ARRAYS = 3;
    private static final int CELLS = 32;
    private static final int ALL_CELLS = ARRAYS * CELLS;
    private static final int MOST_STATEMENTS = 4;
    private static final int MOST_SHIFT = 4;
    private static final int MOST_DISTANCE = 8;
    private static final int LANES = 4;

    private static final int ADD = 0;
    private static final int SUB = 1;
    private static final int MUL = 2;
    private static final int MIN = 3;
    private static final int ADDC = 4;
    private static final int SET = 5;
    private static final int MULC = 6;

    // A statement names three arrays and three shifts; these are their places in the packed ints.
    private static final int TARGET = 0;
    private static final int X = 1;
    private static final int Y = 2;
    private static final int ROLES = 3;

    private final int[] cells = new int[ALL_CELLS];
    private final int[] ops = new int[MOST_STATEMENTS];
    private final int[] packedArrays = new int[MOST_STATEMENTS];
    private final int[] packedShifts = new int[MOST_STATEMENTS];
    private final int[] constants = new int[MOST_STATEMENTS];
    private final int[] lanes = new int[LANES];
    private int count;

    public LaneLoops() {
        count = 0;
    }

    public int statement(int op, int arrays, int shifts, int constant) {
        if (!namesArrays(arrays)) {
            return BAD_ARRAY;
        }
        if (!namesShifts(shifts)) {
            return BAD_SHIFT;
        }
        if (op < ADD || op > MULC) {
            return BAD_OP;
        }
        if (count >= MOST_STATEMENTS) {
            return FULL;
        }
        ops[count] = op;
        packedArrays[count] = arrays;
        packedShifts[count] = shifts;
        constants[count] = constant;
        count++;
        return count - 1;
    }

    public void clear() {
        count = 0;
    }

    public int exchange(int a, int b) {
        if (!isStatement(a) || !isStatement(b)) {
            return BAD_OP;
        }
        swap(ops, a, b);
        swap(packedArrays, a, b);
        swap(packedShifts, a, b);
        swap(constants, a, b);
        return 0;
    }

    public int set(int array, int cell, int value) {
        if (!isArray(array)) {
            return BAD_ARRAY;
        }
        if (!isCell(cell)) {
            return BAD_CELL;
        }
        int old = cells[array * CELLS + cell];
        cells[array * CELLS + cell] = value;
        return old;
    }

    public int ramp(int array, int first, int step) {
        if (!isArray(array)) {
            return BAD_ARRAY;
        }
        for (int i = 0; i < CELLS; i++) {
            cells[array * CELLS + i] = first + i * step;
        }
        return 0;
    }

    public int run(int low, int high) {
        if (!isCell(low) || !isCell(high)) {
            return BAD_CELL;
        }
        if (!bodyStaysInside(low) || !bodyStaysInside(high)) {
            return BAD_SHIFT;
        }
        if (low > high) {
            return 0;
        }
        int indexes = high - low + 1;
        int inLanes = lanesCanBeSeen() ? 0 : indexes - indexes % LANES;
        for (int i = 0; i < inLanes; i += LANES) {
            carryOutInLanes(low + i);
        }
        for (int i = inLanes; i < indexes; i++) {
            carryOutBody(low + i);
        }
        return indexes * count;
    }

    public int get(int array, int cell) {
        if (!isArray(array) || !isCell(cell)) {
            return 0;
        }
        return cells[array * CELLS + cell];
    }

    public int sum(int array) {
        if (!isArray(array)) {
            return 0;
        }
        int total = 0;
        for (int i = 0; i < CELLS; i++) {
            total += cells[array * CELLS + i];
        }
        return total;
    }

    public int differ(int a, int b) {
        if (!isArray(a) || !isArray(b)) {
            return BAD_ARRAY;
        }
        int different = 0;
        for (int i = 0; i < CELLS; i++) {
            if (cells[a * CELLS + i] != cells[b * CELLS + i]) {
                different++;
            }
        }
        return different;
    }

    public int size() {
        return count;
    }

    public boolean mustPrecede(int a, int b, int distance) {
        if (!isStatement(a) || !isStatement(b)) {
            return false;
        }
        if (distance < 0 || distance > MOST_DISTANCE) {
            return false;
        }
        if (distance == 0 && a >= b) {
            return false;
        }
        return clash(a, b, distance);
    }

    private static boolean isArray(int array) {
        return array >= 0 && array < ARRAYS;
    }

    private static boolean isCell(int cell) {
        return cell >= 0 && cell < CELLS;
    }

    private boolean isStatement(int number) {
        return number >= 0 && number < count;
    }

    private static int arrayIn(int arrays, int role) {
        return (arrays >> (2 * role)) & 3;
    }

    private static int shiftIn(int shifts, int role) {
        return ((shifts >> (4 * role)) & 15) - MOST_SHIFT;
    }

    private static boolean namesArrays(int arrays) {
        for (int role = TARGET; role < ROLES; role++) {
            if (arrayIn(arrays, role) >= ARRAYS) {
                return false;
            }
        }
        return true;
    }

    private static boolean namesShifts(int shifts) {
        for (int role = TARGET; role < ROLES; role++) {
            // The packed form holds no shift below -4.
            if (shiftIn(shifts, role) > MOST_SHIFT) {
                return false;
            }
        }
        return true;
    }

    private static void swap(int[] values, int a, int b) {
        int kept = values[a];
        values[a] = values[b];
        values[b] = kept;
    }

    /** Cells between those of two indexes that stay inside do so too, so a run tests its ends only. */
    private boolean bodyStaysInside(int index) {
        for (int s = 0; s < count; s++) {
            for (int role = TARGET; role < ROLES; role++) {
                int cell = index + shiftIn(packedShifts[s], role);
                if (!isCell(cell)) {
                    return false;
                }
            }
        }
        return true;
    }

    private void carryOutBody(int index) {
        for (int s = 0; s < count; s++) {
            int value = valueFor(s, index);
            cells[placeOf(s, TARGET, index)] = value;
        }
    }

    private void carryOutInLanes(int first) {
        for (int s = 0; s < count; s++) {
            for (int lane = 0; lane < LANES; lane++) {
                lanes[lane] = valueFor(s, first + lane);
            }
            for (int lane = 0; lane < LANES; lane++) {
                cells[placeOf(s, TARGET, first + lane)] = lanes[lane];
            }
        }
    }

    private int placeOf(int s, int role, int index) {
        return arrayIn(packedArrays[s], role) * CELLS + index + shiftIn(packedShifts[s], role);
    }

    private int valueFor(int s, int index) {
        // run has tested x and y whatever the operation looks at, so both may be read.
        int x = cells[placeOf(s, X, index)];
        int y = cells[placeOf(s, Y, index)];
        int constant = constants[s];
        switch (ops[s]) {
            case ADD:
                return x + y;
            case SUB:
                return x - y;
            case MUL:
                return x * y;
            case MIN:
                return x < y ? x : y;
            case ADDC:
                return x + constant;
            case SET:
                return constant;
            default:
                return x * constant;
        }
    }

    /**
     * Lanes turn the order round for a later statement and an earlier one at a greater index of the
     * same four. Within one statement all four reads come before all four writes, so there only a
     * read of what a lower lane writes is turned round.
     */
    private boolean lanesCanBeSeen() {
        for (int later = 0; later < count; later++) {
            for (int distance = 1; distance < LANES; distance++) {
                if (writesThenReads(later, later, distance)) {
                    return true;
                }
                for (int earlier = 0; earlier < later; earlier++) {
                    if (clash(later, earlier, distance)) {
                        return true;
                    }
                }
            }
        }
        return false;
    }

    private boolean looksAt(int s, int source) {
        return source == X ? ops[s] != SET : ops[s] <= MIN;
    }

    private boolean clash(int a, int b, int distance) {
        return sameCell(a, TARGET, b, TARGET, distance)
            || writesThenReads(a, b, distance)
            || readsThenWrites(a, b, distance);
    }

    private boolean writesThenReads(int a, int b, int distance) {
        return looksAt(b, X) && sameCell(a, TARGET, b, X, distance)
            || looksAt(b, Y) && sameCell(a, TARGET, b, Y, distance);
    }

    private boolean readsThenWrites(int a, int b, int distance) {
        return looksAt(a, X) && sameCell(a, X, b, TARGET, distance)
            || looksAt(a, Y) && sameCell(a, Y, b, TARGET, distance);
    }

    private boolean sameCell(int a, int roleOfA, int b, int roleOfB, int distance) {
        return arrayIn(packedArrays[a], roleOfA) == arrayIn(packedArrays[b], roleOfB)
            && shiftIn(packedShifts[a], roleOfA) == shiftIn(packedShifts[b], roleOfB) + distance;
    }
}
