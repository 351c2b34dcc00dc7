/** Many bodies, run by LaneLoops and by PlainLoops: lanes must not be seen in any cell. */
public final class PlainLoopsTest {
    private static final int BODIES = 60_000;
    private static final Draw DRAW = new Draw(20261116L);

    public static void main(String[] args) {
        for (int number = 0; number < BODIES; number++) {
            // Narrow shifts give bodies that may run in lanes, wide ones mostly bodies that may not.
            compare("body " + number, DRAW.below(5), 1 + DRAW.below(4));
        }
        Check.finish();
    }

    private static void compare(String what, int widest, int statements) {
        LaneLoops lanes = new LaneLoops();
        PlainLoops plain = new PlainLoops();
        fill(lanes, plain);
        for (int s = 0; s < statements; s++) {
            append(what, lanes, plain, widest);
        }
        for (int turn = 0; turn < 2; turn++) {
            int low = DRAW.below(12);
            int high = 8 + DRAW.below(24);
            String call = what + " run(" + low + ", " + high + ")";
            Check.due(call, lanes.run(low, high), plain.run(low, high));
            compareCells(call, lanes, plain);
            int a = DRAW.below(statements);
            int b = DRAW.below(statements);
            Check.due(call + " then exchange", lanes.exchange(a, b), plain.exchange(a, b));
        }
        compareOrder(what, lanes, plain);
    }

    private static void fill(LaneLoops lanes, PlainLoops plain) {
        for (int array = 0; array < 3; array++) {
            for (int cell = 0; cell < 32; cell++) {
                int value = DRAW.rarely(2) ? DRAW.below(50) - 25 : DRAW.anyInt();
                lanes.set(array, cell, value);
                plain.set(array, cell, value);
            }
        }
    }

    private static void append(String what, LaneLoops lanes, PlainLoops plain, int widest) {
        int op = DRAW.below(7);
        int arrays = Pack.arrays(DRAW.below(3), DRAW.below(3), DRAW.below(3));
        int shifts = Pack.shifts(shift(widest), shift(widest), shift(widest));
        int constant = DRAW.below(2000) - 1000;
        int due = plain.statement(op, arrays, shifts, constant);
        Check.due(what + " statement", lanes.statement(op, arrays, shifts, constant), due);
    }

    private static int shift(int widest) {
        return DRAW.below(2 * widest + 1) - widest;
    }

    private static void compareCells(String what, LaneLoops lanes, PlainLoops plain) {
        for (int array = 0; array < 3; array++) {
            for (int cell = 0; cell < 32; cell++) {
                int due = plain.get(array, cell);
                Check.due(what + " get(" + array + ", " + cell + ")", lanes.get(array, cell), due);
            }
        }
    }

    private static void compareOrder(String what, LaneLoops lanes, PlainLoops plain) {
        for (int a = 0; a < plain.size(); a++) {
            for (int b = 0; b < plain.size(); b++) {
                for (int d = 0; d <= 8; d++) {
                    String call = what + " mustPrecede(" + a + ", " + b + ", " + d + ")";
                    Check.due(call, lanes.mustPrecede(a, b, d), plain.mustPrecede(a, b, d));
                }
            }
        }
    }
}
