import java.util.function.Supplier;

/** The boundary cases of running, sentence by sentence: the Terms' operations, promise 7, and 13 for `run`. */
public final class RunBoundsTest {
    private static final int LEAST = Integer.MIN_VALUE;
    private static final int MOST = Integer.MAX_VALUE;

    public static void main(String[] args) {
        termsOperationsThatWrap();
        termsSmallerAtTheEnds();
        termsConstantAtTheEnds();
        termsSourcesNotLookedAt();
        termsFromLowToHigh();
        termsAscendingOrder();
        termsOrderOfNumbers();
        termsLowAboveHigh();
        promise7CellOutside();
        promise7ShiftOutside();
        promise7LookedAtOrNot();
        promise7SomeStatement();
        promise7HowManyCarriedOut();
        promise13OrderOfRun();
        promise13CellsTestedIfLowAboveHigh();
        Check.finish();
    }

    private static void termsOperationsThatWrap() {
        Check.sentence("Terms", "0 ADD x + y     1 SUB x - y     2 MUL x * y");
        gives("MOST + 1", Op.ADD, MOST, 1, 0, LEAST);
        gives("LEAST + -1", Op.ADD, LEAST, -1, 0, MOST);
        gives("LEAST + LEAST", Op.ADD, LEAST, LEAST, 0, 0);
        gives("LEAST - 1", Op.SUB, LEAST, 1, 0, MOST);
        gives("MOST - -1", Op.SUB, MOST, -1, 0, LEAST);
        gives("0 - LEAST", Op.SUB, 0, LEAST, 0, LEAST);
        gives("46340 * 46340, just inside", Op.MUL, 46340, 46340, 0, 2147395600);
        gives("46341 * 46341", Op.MUL, 46341, 46341, 0, -2147479015);
        gives("65536 * 65536", Op.MUL, 65536, 65536, 0, 0);
        gives("MOST * MOST", Op.MUL, MOST, MOST, 0, 1);
        gives("LEAST * -1", Op.MUL, LEAST, -1, 0, LEAST);
        Check.sentence("Terms", "4 ADDC x + constant");
        gives("MOST + constant 1", Op.ADDC, MOST, 0, 1, LEAST);
        gives("LEAST + constant -1", Op.ADDC, LEAST, 0, -1, MOST);
        gives("MOST + constant MOST", Op.ADDC, MOST, 0, MOST, -2);
        gives("-1 + constant LEAST", Op.ADDC, -1, 0, LEAST, MOST);
        Check.sentence("Terms", "6 MULC x * constant");
        gives("65536 * constant 32768", Op.MULC, 65536, 0, 32768, LEAST);
        gives("LEAST * constant -1", Op.MULC, LEAST, 0, -1, LEAST);
        gives("3 * constant LEAST", Op.MULC, 3, 0, LEAST, LEAST);
        gives("MOST * constant MOST", Op.MULC, MOST, 0, MOST, 1);
        gives("MOST * constant 0", Op.MULC, MOST, 0, 0, 0);
    }

    private static void termsSmallerAtTheEnds() {
        Check.sentence("Terms", "3 MIN the smaller");
        gives("LEAST and MOST", Op.MIN, LEAST, MOST, 0, LEAST);
        gives("MOST and LEAST", Op.MIN, MOST, LEAST, 0, LEAST);
        gives("-2 and MOST", Op.MIN, -2, MOST, 0, -2);
        gives("MOST and -2", Op.MIN, MOST, -2, 0, -2);
        gives("equal ones", Op.MIN, 5, 5, 0, 5);
        gives("one apart", Op.MIN, 5, 4, 0, 4);
        gives("one apart, turned round", Op.MIN, 4, 5, 0, 4);
    }

    private static void termsConstantAtTheEnds() {
        Check.sentence("Terms", "5 SET constant");
        for (int constant : new int[] {LEAST, -1, 0, 1, MOST}) {
            gives("constant " + constant, Op.SET, 3, 4, constant, constant);
        }
    }

    /** Asks it of one index and of 24, which may be taken by fours. */
    private static void gives(String what, int op, int first, int second, int constant, int due) {
        for (int high : new int[] {4, 27}) {
            LaneLoops x = new LaneLoops();
            x.ramp(1, first, 0);
            x.ramp(2, second, 0);
            x.statement(op, Pack.arrays(0, 1, 2), Pack.shifts(-4, 4, 1), constant);
            x.run(4, high);
            for (int cell = 0; cell < 32; cell++) {
                String call = what + " by run(4, " + high + ") in cell " + cell;
                Check.due(call, x.get(0, cell), cell <= high - 4 ? due : 0);
            }
        }
    }

    private static void termsSourcesNotLookedAt() {
        Check.sentence("Terms", "(y is not looked at in 4 to 6, x not in 5)");
        for (int op = Op.ADD; op <= Op.MULC; op++) {
            int usual = oneCell(op, 50, 60);
            int otherX = oneCell(op, 40, 60);
            int otherY = oneCell(op, 50, 45);
            Check.due("op " + op + " looks at x", usual != otherX, Op.looksAtX(op));
            Check.due("op " + op + " looks at y", usual != otherY, Op.looksAtY(op));
        }
    }

    private static int oneCell(int op, int first, int second) {
        LaneLoops x = new LaneLoops();
        x.set(1, 10, first);
        x.set(2, 10, second);
        x.statement(op, Pack.arrays(0, 1, 2), Pack.NO_SHIFT, 3);
        x.run(10, 10);
        return x.get(0, 10);
    }

    private static void termsFromLowToHigh() {
        Check.sentence("Terms", "for each index i from low to high");
        for (int low = 0; low < 32; low++) {
            for (int high = low; high < 32; high++) {
                LaneLoops x = new LaneLoops();
                x.statement(Op.SET, 1, Pack.NO_SHIFT, 9);
                x.run(low, high);
                for (int cell = 0; cell < 32; cell++) {
                    String call = "run(" + low + ", " + high + ") cell " + cell;
                    Check.due(call, x.get(1, cell), cell >= low && cell <= high ? 9 : 0);
                }
            }
        }
    }

    private static void termsAscendingOrder() {
        Check.sentence("Terms", "in ascending order");
        for (int shift = 1; shift <= 4; shift++) {
            LaneLoops up = new LaneLoops();
            up.statement(Op.ADDC, 0, Pack.shifts(0, -shift, 0), 1);
            up.run(shift, 31);
            LaneLoops down = new LaneLoops();
            down.statement(Op.ADDC, 0, Pack.shifts(0, shift, 0), 1);
            down.run(0, 31 - shift);
            for (int cell = 0; cell < 32; cell++) {
                Check.due("reading back by " + shift + " cell " + cell, up.get(0, cell), cell / shift);
                Check.due("reading on by " + shift + " cell " + cell, down.get(0, cell), cell <= 31 - shift ? 1 : 0);
            }
        }
    }

    private static void termsOrderOfNumbers() {
        Check.sentence("Terms", "all statements are carried out for i in the order of their numbers");
        LaneLoops x = new LaneLoops();
        x.ramp(0, 2, 0);
        x.statement(Op.ADDC, 0, Pack.NO_SHIFT, 1);
        x.statement(Op.MULC, 0, Pack.NO_SHIFT, 10);
        x.statement(Op.ADDC, 0, Pack.NO_SHIFT, 4);
        x.statement(Op.MULC, 0, Pack.NO_SHIFT, 100);
        x.run(0, 31);
        for (int cell = 0; cell < 32; cell++) {
            Check.due("four statements on cell " + cell, x.get(0, cell), 3400);
        }
        LaneLoops y = new LaneLoops();
        y.statement(Op.SET, 0, Pack.NO_SHIFT, 1);
        y.statement(Op.SET, 0, Pack.shifts(1, 0, 0), 2);
        y.run(0, 30);
        for (int cell = 0; cell < 32; cell++) {
            Check.due("all are done for i before i + 1, cell " + cell, y.get(0, cell), cell == 31 ? 2 : 1);
        }
    }

    private static void termsLowAboveHigh() {
        Check.sentence("Terms", "(nothing is done if low is above high)");
        for (int low = 5; low <= 27; low++) {
            for (int high = 4; high < low; high++) {
                int first = low;
                int last = high;
                Twins.refused("run(" + low + ", " + high + ")", () -> Twins.filled(4), 0,
                    x -> x.run(first, last));
            }
        }
    }

    /** A body of that many statements, of which one is as told and the others have no shifts. */
    private static LaneLoops body(int statements, int number, int op, int shifts) {
        LaneLoops x = Twins.filled(0);
        for (int s = 0; s < statements; s++) {
            if (s == number) {
                x.statement(op, Pack.arrays(0, 1, 2), shifts, 3);
            } else {
                x.statement(Op.ADDC, Pack.arrays(s % 3, s % 3, 0), Pack.NO_SHIFT, 1 + s);
            }
        }
        return x;
    }

    private static int shiftsWith(int role, int shift) {
        return Pack.NO_SHIFT + (shift << 4 * role);
    }

    private static void refusedRun(Supplier<LaneLoops> maker, int low, int high, int answer) {
        Twins.refused("run(" + low + ", " + high + ")", maker, answer, x -> x.run(low, high));
    }

    private static void promise7CellOutside() {
        Check.sentence("Promise 7", "low or high not in 0 to 31: BAD_CELL");
        for (int size = 0; size <= 4; size++) {
            int statements = size;
            Supplier<LaneLoops> maker = () -> body(statements, 0, Op.ADD, Pack.NO_SHIFT);
            for (int outside : Outside.CELLS) {
                for (int inside : new int[] {0, 5, 31}) {
                    refusedRun(maker, outside, inside, LaneLoops.BAD_CELL);
                    refusedRun(maker, inside, outside, LaneLoops.BAD_CELL);
                }
                refusedRun(maker, outside, outside, LaneLoops.BAD_CELL);
            }
            refusedRun(maker, -1, 32, LaneLoops.BAD_CELL);
            refusedRun(maker, 32, -1, LaneLoops.BAD_CELL);
            Check.due("run(0, 31)", maker.get().run(0, 31), 32 * size);
            Check.due("run(0, 0)", maker.get().run(0, 0), size);
            Check.due("run(31, 31)", maker.get().run(31, 31), size);
        }
    }

    private static void promise7ShiftOutside() {
        Check.sentence("Promise 7", "some statement would, for low or for high, touch a cell"
            + " (of the target, or of x or y, looked at or not) that is not in 0 to 31: BAD_SHIFT;"
            + " nothing changes then.");
        for (int role = 0; role < 3; role++) {
            for (int shift = -4; shift <= 4; shift++) {
                int shifts = shiftsWith(role, shift);
                edgesOfRun(() -> body(2, 1, Op.ADD, shifts), shift, 2);
            }
        }
        // Two shifts outward on both sides, so that each end is refused by another one.
        edgesOfRun(() -> body(1, 0, Op.ADD, Pack.shifts(-4, 4, 0)), -4, 4, 1);
        edgesOfRun(() -> body(1, 0, Op.ADD, Pack.shifts(0, -1, 1)), -1, 1, 1);
    }

    private static void edgesOfRun(Supplier<LaneLoops> maker, int shift, int statements) {
        edgesOfRun(maker, Math.min(shift, 0), Math.max(shift, 0), statements);
    }

    private static void edgesOfRun(Supplier<LaneLoops> maker, int leastShift, int mostShift, int statements) {
        int low = -leastShift;
        int high = 31 - mostShift;
        for (int outside = 0; outside < low; outside++) {
            refusedRun(maker, outside, high, LaneLoops.BAD_SHIFT);
            refusedRun(maker, outside, outside, LaneLoops.BAD_SHIFT);
        }
        for (int outside = high + 1; outside < 32; outside++) {
            refusedRun(maker, low, outside, LaneLoops.BAD_SHIFT);
            refusedRun(maker, outside, outside, LaneLoops.BAD_SHIFT);
        }
        String what = " with shifts from " + leastShift + " to " + mostShift;
        Check.due("run(low, high)" + what, maker.get().run(low, high), statements * (high - low + 1));
        Check.due("run(low, low)" + what, maker.get().run(low, low), statements);
        Check.due("run(high, high)" + what, maker.get().run(high, high), statements);
    }

    private static void promise7LookedAtOrNot() {
        Check.sentence("Promise 7", "looked at or not");
        for (int op = Op.ADD; op <= Op.MULC; op++) {
            for (int role = 0; role < 3; role++) {
                for (int shift = -4; shift <= 4; shift++) {
                    int kind = op;
                    int shifts = shiftsWith(role, shift);
                    edgesOfRun(() -> body(1, 0, kind, shifts), shift, 1);
                }
            }
        }
    }

    private static void promise7SomeStatement() {
        Check.sentence("Promise 7", "some statement would");
        for (int size = 1; size <= 4; size++) {
            for (int number = 0; number < size; number++) {
                for (int shift : new int[] {-4, -1, 1, 4}) {
                    int statements = size;
                    int which = number;
                    int shifts = shiftsWith(0, shift);
                    edgesOfRun(() -> body(statements, which, Op.SET, shifts), shift, size);
                }
            }
        }
        // A statement that has been cleared away is none.
        LaneLoops x = body(4, 3, Op.ADD, Pack.shifts(-4, 4, 0));
        x.clear();
        Check.due("run(0, 31) of a cleared body", x.run(0, 31), 0);
        x.statement(Op.SET, 0, Pack.NO_SHIFT, 1);
        Check.due("run(0, 31) of one statement after clear", x.run(0, 31), 32);
    }

    private static void promise7HowManyCarriedOut() {
        Check.sentence("Promise 7", "Else answers how many statements were carried out.");
        for (int size = 0; size <= 4; size++) {
            for (int low = 0; low < 32; low++) {
                LaneLoops x = body(size, 0, Op.MUL, Pack.NO_SHIFT);
                for (int high = 0; high < 32; high++) {
                    int due = high < low ? 0 : size * (high - low + 1);
                    Check.due("run(" + low + ", " + high + ") of " + size, x.run(low, high), due);
                }
            }
        }
    }

    private static void promise13OrderOfRun() {
        Check.sentence("Promise 13", "run: BAD_CELL before BAD_SHIFT.");
        for (int role = 0; role < 3; role++) {
            for (int shift : new int[] {-4, -1, 1, 4}) {
                int shifts = shiftsWith(role, shift);
                Supplier<LaneLoops> maker = () -> body(1, 0, Op.ADD, shifts);
                int inside = shift < 0 ? 0 : 31;
                refusedRun(maker, inside, inside, LaneLoops.BAD_SHIFT);
                for (int outside : Outside.CELLS) {
                    refusedRun(maker, inside, outside, LaneLoops.BAD_CELL);
                    refusedRun(maker, outside, inside, LaneLoops.BAD_CELL);
                }
            }
        }
        // A cell outside whose own cells would be inside by the shift.
        refusedRun(() -> body(1, 0, Op.ADD, 0x888), -1, 4, LaneLoops.BAD_CELL);
        refusedRun(() -> body(1, 0, Op.ADD, 0x000), 27, 32, LaneLoops.BAD_CELL);
    }

    private static void promise13CellsTestedIfLowAboveHigh() {
        Check.sentence("Promise 13", "run: the cells are tested for low and high also if low is above high"
            + " (then 0 statements are carried out).");
        for (int role = 0; role < 3; role++) {
            for (int shift = -4; shift <= 4; shift++) {
                int shifts = shiftsWith(role, shift);
                turnedRound(() -> body(2, 1, Op.SET, shifts), Math.max(0, -shift), 31 - Math.max(0, shift));
            }
        }
        turnedRound(() -> body(1, 0, Op.ADDC, Pack.shifts(-2, 0, 3)), 2, 28);
        turnedRound(() -> Twins.filled(0), 0, 31);
    }

    /** The body's cells stay inside from 'least' to 'most' and not beyond. */
    private static void turnedRound(Supplier<LaneLoops> maker, int least, int most) {
        refusedRun(maker, most, least, 0);
        refusedRun(maker, least + 1, least, 0);
        refusedRun(maker, most, most - 1, 0);
        refusedRun(maker, 32, least, LaneLoops.BAD_CELL);
        refusedRun(maker, most, -1, LaneLoops.BAD_CELL);
        for (int outside = 0; outside < least; outside++) {
            refusedRun(maker, most, outside, LaneLoops.BAD_SHIFT);
            refusedRun(maker, least, outside, LaneLoops.BAD_SHIFT);
        }
        for (int outside = most + 1; outside < 32; outside++) {
            refusedRun(maker, outside, least, LaneLoops.BAD_SHIFT);
            refusedRun(maker, outside, most, LaneLoops.BAD_SHIFT);
        }
    }
}
