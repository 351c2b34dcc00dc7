import java.util.function.Supplier;
import java.util.function.ToIntFunction;

/** Shows what a call has changed by a twin: an object made by the same calls that was not asked it. */
final class Twins {
    private Twins() {
    }

    /** No cell is 0, and each statement that the body has shows in what a run leaves. */
    static LaneLoops filled(int statements) {
        LaneLoops x = new LaneLoops();
        x.ramp(0, 3, 7);
        x.ramp(1, -5, 11);
        x.ramp(2, 1000, -13);
        for (int number = 0; number < statements; number++) {
            append(x, number);
        }
        return x;
    }

    /** Appends one of four statements, no two of them alike in any part. */
    static int append(LaneLoops x, int kind) {
        return switch (kind) {
            case 0 -> x.statement(Op.SUB, Pack.arrays(0, 1, 2), Pack.shifts(-1, 2, -3), 5);
            case 1 -> x.statement(Op.ADDC, Pack.arrays(1, 2, 0), Pack.shifts(1, -4, 0), 17);
            case 2 -> x.statement(Op.MIN, Pack.arrays(2, 0, 1), Pack.shifts(4, 1, -2), 9);
            default -> x.statement(Op.MULC, Pack.arrays(0, 0, 2), Pack.shifts(3, -1, 2), -3);
        };
    }

    static void refused(String what, Supplier<LaneLoops> maker, int answer, ToIntFunction<LaneLoops> call) {
        LaneLoops asked = maker.get();
        Check.due(what, call.applyAsInt(asked), answer);
        same(what + ", and then", asked, maker.get());
    }

    /** Both are asked everything that may be asked, are run, and are looked at again: under 340 calls each. */
    static void same(String what, LaneLoops x, LaneLoops y) {
        sameCells(what, x, y);
        sameBody(what, x, y);
        // From 4 to 27 every shift stays inside, so the run is never refused.
        int carriedOut = 24 * y.size();
        Check.due(what + " run(4, 27)", x.run(4, 27), carriedOut);
        Check.due(what + " the twin's run(4, 27)", y.run(4, 27), carriedOut);
        sameCells(what + " after run(4, 27)", x, y);
    }

    static void sameCells(String what, LaneLoops x, LaneLoops y) {
        for (int array = 0; array < 3; array++) {
            for (int cell = 0; cell < 32; cell++) {
                int due = y.get(array, cell);
                Check.due(what + " get(" + array + ", " + cell + ")", x.get(array, cell), due);
            }
        }
    }

    private static void sameBody(String what, LaneLoops x, LaneLoops y) {
        Check.due(what + " size()", x.size(), y.size());
        for (int a = 0; a < 4; a++) {
            for (int b = 0; b < 4; b++) {
                for (int d = 0; d <= 8; d++) {
                    String call = what + " mustPrecede(" + a + ", " + b + ", " + d + ")";
                    Check.due(call, x.mustPrecede(a, b, d), y.mustPrecede(a, b, d));
                }
            }
        }
    }
}
