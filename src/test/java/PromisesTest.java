/** Ordinary uses of the promises, one after the other; their boundary cases stand in the *BoundsTest files. */
public final class PromisesTest {
    public static void main(String[] args) {
        promise1NewObject();
        promise2Statement();
        promise3Clear();
        promise4Exchange();
        promise5Set();
        promise6Ramp();
        promise7RunOperations();
        promise7RunOrder();
        promise8Get();
        promise9Sum();
        promise10Differ();
        promise11Size();
        promise12MustPrecede();
        promise13Order();
        Check.finish();
    }

    private static void promise1NewObject() {
        LaneLoops x = new LaneLoops();
        LaneLoops other = new LaneLoops();
        x.set(0, 0, 5);
        x.statement(Op.SET, Pack.arrays(0, 0, 0), Pack.NO_SHIFT, 1);
        Check.due("1: a new cell", other.get(0, 0), 0);
        Check.due("1: a new body", other.size(), 0);
        Check.due("1: running a new body", other.run(0, 31), 0);
        Check.due("1: an object made later", new LaneLoops().get(0, 0), 0);
    }

    private static void promise2Statement() {
        LaneLoops x = new LaneLoops();
        x.ramp(1, 10, 1);
        x.ramp(2, 100, 10);
        Check.due("2: first", x.statement(Op.ADD, Pack.arrays(0, 1, 2), Pack.shifts(1, -1, 2), 0), 0);
        Check.due("2: second", x.statement(Op.SET, Pack.arrays(1, 0, 0), Pack.NO_SHIFT, 8), 1);
        Check.due("2: run", x.run(5, 5), 2);
        Check.due("2: the first one's target", x.get(0, 6), 14 + 170);
        Check.due("2: the second one's target", x.get(1, 5), 8);
    }

    private static void promise3Clear() {
        LaneLoops x = new LaneLoops();
        x.set(1, 3, 9);
        x.statement(Op.SET, 0, Pack.NO_SHIFT, 5);
        x.statement(Op.SET, 0, Pack.NO_SHIFT, 6);
        x.clear();
        Check.due("3: size", x.size(), 0);
        Check.due("3: nothing is run", x.run(0, 31), 0);
        Check.due("3: cells of the target stay", x.get(0, 0), 0);
        Check.due("3: other cells stay", x.get(1, 3), 9);
        Check.due("3: numbers begin again", x.statement(Op.SET, 0, Pack.NO_SHIFT, 7), 0);
    }

    private static void promise4Exchange() {
        LaneLoops x = new LaneLoops();
        x.ramp(1, 50, 1);
        x.statement(Op.ADDC, Pack.arrays(0, 1, 2), Pack.shifts(-1, 2, 3), 7);
        x.statement(Op.MULC, Pack.arrays(2, 0, 1), Pack.shifts(1, -1, 0), 3);
        x.statement(Op.SET, Pack.arrays(1, 0, 0), Pack.shifts(-4, 0, 0), 8);
        dueAfterRun("4: before", x, 4, 56 + 7, 3 * 63);
        Check.due("4: exchange", x.exchange(0, 1), 0);
        dueAfterRun("4: exchanged", x, 6, 58 + 7, 0);
        Check.due("4: the order asked", x.mustPrecede(0, 1, 0), true);
        Check.due("4: exchange back", x.exchange(1, 0), 0);
        dueAfterRun("4: exchanged back", x, 8, 60 + 7, 3 * 67);
        Check.due("4: with itself", x.exchange(1, 1), 0);
        dueAfterRun("4: exchanged with itself", x, 10, 62 + 7, 3 * 69);
        Check.due("4: size stays", x.size(), 3);
    }

    /** Runs the body of promise 4 for one index and looks at what its first two statements write. */
    private static void dueAfterRun(String what, LaneLoops x, int index, int added, int multiplied) {
        Check.due(what + ": run", x.run(index, index), 3);
        Check.due(what + ": ADDC", x.get(0, index - 1), added);
        Check.due(what + ": MULC", x.get(2, index + 1), multiplied);
        Check.due(what + ": SET", x.get(1, index - 4), 8);
    }

    private static void promise5Set() {
        LaneLoops x = new LaneLoops();
        Check.due("5: a new cell", x.set(1, 7, 40), 0);
        Check.due("5: the old value", x.set(1, 7, -3), 40);
        Check.due("5: the new value", x.get(1, 7), -3);
        Check.due("5: only the cell set", x.sum(0) + x.sum(1) + x.sum(2), -3);
        Check.due("5: no such array", x.set(3, 7, 1), LaneLoops.BAD_ARRAY);
        Check.due("5: no such cell", x.set(1, 32, 1), LaneLoops.BAD_CELL);
    }

    private static void promise6Ramp() {
        LaneLoops x = new LaneLoops();
        for (int array = 0; array < 3; array++) {
            x.set(array, 9, 123);
            Check.due("6: ramp", x.ramp(array, array - 7, 3 - 2 * array), 0);
        }
        for (int array = 0; array < 3; array++) {
            for (int i = 0; i < 32; i++) {
                Check.due("6: cell " + i, x.get(array, i), array - 7 + i * (3 - 2 * array));
            }
        }
        Check.due("6: no such array", x.ramp(3, 0, 0), LaneLoops.BAD_ARRAY);
    }

    private static int once(int op, int first, int second, int constant) {
        LaneLoops x = new LaneLoops();
        x.set(1, 11, first);
        x.set(2, 8, second);
        x.statement(op, Pack.arrays(0, 1, 2), Pack.shifts(3, 1, -2), constant);
        Check.due("7: one statement", x.run(10, 10), 1);
        int value = x.get(0, 13);
        Check.due("7: only the target", x.sum(0), value);
        Check.due("7: x stays", x.get(1, 11), first);
        Check.due("7: y stays", x.get(2, 8), second);
        return value;
    }

    private static void promise7RunOperations() {
        Check.due("7: ADD", once(Op.ADD, 7, -9, 100), -2);
        Check.due("7: SUB", once(Op.SUB, 7, -9, 100), 16);
        Check.due("7: MUL", once(Op.MUL, 7, -9, 100), -63);
        Check.due("7: MIN, y the smaller", once(Op.MIN, 7, -9, -100), -9);
        Check.due("7: MIN, x the smaller", once(Op.MIN, -10, -9, -100), -10);
        Check.due("7: ADDC", once(Op.ADDC, 7, -9, 100), 107);
        Check.due("7: SET", once(Op.SET, 7, -9, 100), 100);
        Check.due("7: MULC", once(Op.MULC, 7, -9, -100), -700);
    }

    /** Each body has a value that travels from index to index, so lanes or another order would show. */
    private static void promise7RunOrder() {
        for (int distance = 1; distance <= 4; distance++) {
            LaneLoops x = new LaneLoops();
            x.ramp(0, 1, 0);
            x.statement(Op.ADDC, Pack.arrays(0, 0, 0), Pack.shifts(0, -distance, 0), 1);
            Check.due("7: count", x.run(4, 31), 28);
            for (int i = 4; i < 32; i++) {
                int steps = (i - 4) / distance + 1;
                Check.due("7: carried on by " + distance, x.get(0, i), 1 + steps);
            }
        }
        for (int distance = 1; distance <= 4; distance++) {
            LaneLoops x = new LaneLoops();
            x.ramp(0, 0, 1);
            x.statement(Op.ADDC, Pack.arrays(0, 0, 0), Pack.shifts(0, distance, 0), 100);
            x.run(0, 27);
            for (int i = 0; i < 28; i++) {
                Check.due("7: read ahead by " + distance, x.get(0, i), i + distance + 100);
            }
        }
        LaneLoops x = new LaneLoops();
        x.ramp(1, 5, 1);
        x.statement(Op.ADDC, Pack.arrays(0, 1, 0), Pack.NO_SHIFT, 0);
        x.statement(Op.SET, Pack.arrays(1, 0, 0), Pack.shifts(1, 0, 0), -1);
        Check.due("7: two statements", x.run(0, 30), 62);
        Check.due("7: the first index", x.get(0, 0), 5);
        for (int i = 1; i < 31; i++) {
            Check.due("7: the later statement's cell is read next", x.get(0, i), -1);
        }
        Check.due("7: above high", x.get(0, 31), 0);
        LaneLoops y = new LaneLoops();
        y.statement(Op.SET, Pack.arrays(2, 0, 0), Pack.NO_SHIFT, 1);
        y.statement(Op.SET, Pack.arrays(2, 0, 0), Pack.shifts(2, 0, 0), 2);
        y.run(0, 29);
        Check.due("7: the greater index writes last", y.sum(2), 30 + 2 * 2);
    }

    private static void promise8Get() {
        LaneLoops x = new LaneLoops();
        x.ramp(0, 100, 1);
        x.ramp(1, 200, 1);
        Check.due("8: array 0", x.get(0, 12), 112);
        Check.due("8: array 1", x.get(1, 12), 212);
        Check.due("8: array 2", x.get(2, 12), 0);
        Check.due("8: no cell", x.get(0, 32), 0);
    }

    private static void promise9Sum() {
        LaneLoops x = new LaneLoops();
        for (int array = 0; array < 3; array++) {
            x.ramp(array, array, array + 1);
        }
        for (int array = 0; array < 3; array++) {
            Check.due("9: sum", x.sum(array), 32 * array + 496 * (array + 1));
        }
        Check.due("9: no array", x.sum(3), 0);
    }

    private static void promise10Differ() {
        LaneLoops x = new LaneLoops();
        x.set(0, 0, 1);
        x.set(2, 31, 1);
        Check.due("10: two cells", x.differ(0, 2), 2);
        Check.due("10: turned round", x.differ(2, 0), 2);
        Check.due("10: first cell", x.differ(0, 1), 1);
        Check.due("10: last cell", x.differ(1, 2), 1);
        Check.due("10: no array", x.differ(0, 3), LaneLoops.BAD_ARRAY);
    }

    private static void promise11Size() {
        LaneLoops x = new LaneLoops();
        Twins.append(x, 0);
        Twins.append(x, 1);
        Check.due("11: size", x.size(), 2);
    }

    private static void promise12MustPrecede() {
        for (int shift = -4; shift <= 4; shift++) {
            for (int other = -4; other <= 4; other++) {
                LaneLoops x = new LaneLoops();
                x.statement(Op.SET, Pack.arrays(0, 1, 1), Pack.shifts(shift, 0, 0), 1);
                x.statement(Op.ADDC, Pack.arrays(1, 0, 1), Pack.shifts(0, other, 0), 1);
                x.statement(Op.SET, Pack.arrays(0, 1, 1), Pack.shifts(other, 0, 0), 1);
                x.statement(Op.MUL, Pack.arrays(2, 1, 0), Pack.shifts(0, 0, other), 1);
                for (int d = 0; d <= 8; d++) {
                    boolean met = shift == other + d;
                    boolean back = other == shift + d;
                    String what = "12: " + shift + " " + other + " distance " + d;
                    Check.due(what + " write, read x", x.mustPrecede(0, 1, d), met);
                    Check.due(what + " write, write", x.mustPrecede(0, 2, d), met);
                    Check.due(what + " write, read y", x.mustPrecede(0, 3, d), met);
                    Check.due(what + " read x, write", x.mustPrecede(1, 0, d), back && d > 0);
                    Check.due(what + " write, write back", x.mustPrecede(2, 0, d), back && d > 0);
                    Check.due(what + " read y, write", x.mustPrecede(3, 0, d), back && d > 0);
                    Check.due(what + " with itself", x.mustPrecede(0, 0, d), false);
                }
            }
        }
        LaneLoops x = new LaneLoops();
        x.statement(Op.ADD, Pack.arrays(1, 1, 1), Pack.shifts(2, -1, 4), 0);
        for (int d = 0; d <= 8; d++) {
            Check.due("12: itself at " + d, x.mustPrecede(0, 0, d), d == 2 || d == 3);
        }
    }

    private static void promise13Order() {
        LaneLoops x = new LaneLoops();
        Check.due("13: array, shift, op", x.statement(7, 3, 9, 0), LaneLoops.BAD_ARRAY);
        Check.due("13: shift, op", x.statement(7, 0, 9, 0), LaneLoops.BAD_SHIFT);
        Check.due("13: array, cell", x.set(3, 32, 0), LaneLoops.BAD_ARRAY);
        x.statement(Op.SET, 0, Pack.shifts(-1, 0, 0), 0);
        Check.due("13: cell, shift", x.run(0, 32), LaneLoops.BAD_CELL);
        Check.due("13: low above high, shift", x.run(5, 0), LaneLoops.BAD_SHIFT);
        Check.due("13: low above high", x.run(5, 1), 0);
    }
}
