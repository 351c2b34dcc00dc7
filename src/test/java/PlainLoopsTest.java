import java.util.Collections;

/** Many bodies, run by LaneLoops and by PlainLoops: lanes must not be seen in any cell. */
public final class PlainLoopsTest {
    private static final int BODIES = 60_000;
    private static long state = 20261116L;

    /** The same numbers each time, so that a failure comes back. */
    private static int below(int bound) {
        state = state * 6364136223846793005L + 1442695040888963407L;
        return (int) ((state >>> 33) % bound);
    }

    public static void main(String[] args) {
        for (int number = 0; number < BODIES; number++) {
            // Narrow shifts give bodies that may run in lanes, wide ones mostly bodies that may not.
            compare("body " + number, below(5), 1 + below(4));
        }
        Check.finish();
    }

    private static void compare(String what, int widest, int statements) {
        LaneLoops lanes = new LaneLoops();
        PlainLoops plain = new PlainLoops();
        fill(lanes, plain);
        for (int s = 0; s < statements; s++) {
            append(lanes, plain, widest);
        }
        for (int turn = 0; turn < 2; turn++) {
            int low = below(12);
            int high = 8 + below(24);
            String call = what + " run(" + low + ", " + high + ")";
            Check.due(call, lanes.run(low, high), plain.run(low, high));
            compareCells(call, lanes, plain);
            int a = below(statements);
            int b = below(statements);
            Check.due(call + " then exchange", lanes.exchange(a, b), 0);
            Collections.swap(plain.body, a, b);
        }
        compareOrder(what, lanes, plain);
    }

    private static void fill(LaneLoops lanes, PlainLoops plain) {
        for (int array = 0; array < 3; array++) {
            for (int cell = 0; cell < 32; cell++) {
                int value = below(2) == 0 ? below(50) - 25 : below(Integer.MAX_VALUE);
                lanes.set(array, cell, value);
                plain.cells[array][cell] = value;
            }
        }
    }

    private static PlainLoops.Reference reference(int widest) {
        return new PlainLoops.Reference(below(3), below(2 * widest + 1) - widest);
    }

    private static void append(LaneLoops lanes, PlainLoops plain, int widest) {
        PlainLoops.Reference target = reference(widest);
        PlainLoops.Reference x = reference(widest);
        PlainLoops.Reference y = reference(widest);
        int op = below(7);
        int constant = below(2000) - 1000;
        plain.body.add(new PlainLoops.Statement(op, target, x, y, constant));
        int arrays = Pack.arrays(target.array(), x.array(), y.array());
        int shifts = Pack.shifts(target.shift(), x.shift(), y.shift());
        lanes.statement(op, arrays, shifts, constant);
    }

    private static void compareCells(String what, LaneLoops lanes, PlainLoops plain) {
        for (int array = 0; array < 3; array++) {
            for (int cell = 0; cell < 32; cell++) {
                int due = plain.cells[array][cell];
                Check.due(what + " get(" + array + ", " + cell + ")", lanes.get(array, cell), due);
            }
        }
    }

    private static void compareOrder(String what, LaneLoops lanes, PlainLoops plain) {
        for (int a = 0; a < plain.body.size(); a++) {
            for (int b = 0; b < plain.body.size(); b++) {
                for (int d = 0; d <= 8; d++) {
                    String call = what + " mustPrecede(" + a + ", " + b + ", " + d + ")";
                    Check.due(call, lanes.mustPrecede(a, b, d), plain.mustPrecede(a, b, d));
                }
            }
        }
    }
}
