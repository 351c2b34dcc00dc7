/** The boundary cases of arrays and cells, sentence by sentence: promises 1, 5, 6, 8 to 10, and 13 for `set`. */
public final class CellBoundsTest {
    private static final int LEAST = Integer.MIN_VALUE;
    private static final int MOST = Integer.MAX_VALUE;

    public static void main(String[] args) {
        termsArraysAndCells();
        promise1AllCellsNought();
        promise5ArrayOutside();
        promise5CellOutside();
        promise5OldValue();
        promise6EveryCell();
        promise6RampsThatWrap();
        promise6ArrayOutside();
        promise6AnswersNought();
        promise8FirstAndLastCell();
        promise8NoCell();
        promise9SumsThatWrap();
        promise9ArrayOutside();
        promise10FromNoneToAll();
        promise10ArrayOutside();
        promise13OrderOfSet();
        Check.finish();
    }

    private static void termsArraysAndCells() {
        Check.sentence("Terms", "There are three ARRAYS (0 to 2) of 32 CELLS (0 to 31), ints that wrap.");
        LaneLoops x = new LaneLoops();
        for (int array = 0; array < 3; array++) {
            for (int cell = 0; cell < 32; cell++) {
                Check.due("set", x.set(array, cell, 100 * array + cell + 1), 0);
            }
        }
        for (int array = 0; array < 3; array++) {
            for (int cell = 0; cell < 32; cell++) {
                String call = "get(" + array + ", " + cell + ")";
                Check.due(call, x.get(array, cell), 100 * array + cell + 1);
            }
        }
    }

    private static void promise1AllCellsNought() {
        Check.sentence("Promise 1", "All cells 0");
        LaneLoops x = new LaneLoops();
        for (int array = 0; array < 3; array++) {
            for (int cell = 0; cell < 32; cell++) {
                Check.due("get(" + array + ", " + cell + ")", x.get(array, cell), 0);
            }
            Check.due("sum(" + array + ")", x.sum(array), 0);
            Check.due("differ(" + array + ", 1)", x.differ(array, 1), 0);
        }
    }

    private static void promise5ArrayOutside() {
        Check.sentence("Promise 5", "array not in 0 to 2: BAD_ARRAY");
        for (int array : Outside.ARRAYS) {
            for (int cell : new int[] {0, 31}) {
                Twins.refused("set(" + array + ", " + cell + ", 77)", () -> Twins.filled(1),
                    LaneLoops.BAD_ARRAY, x -> x.set(array, cell, 77));
            }
        }
        LaneLoops x = new LaneLoops();
        for (int array = 0; array < 3; array++) {
            Check.due("set(" + array + ", 5, 77)", x.set(array, 5, 77), 0);
            Check.due("get(" + array + ", 5)", x.get(array, 5), 77);
        }
    }

    private static void promise5CellOutside() {
        Check.sentence("Promise 5", "cell not in 0 to 31: BAD_CELL; nothing changes then.");
        for (int cell : Outside.CELLS) {
            for (int array = 0; array < 3; array++) {
                int inside = array;
                Twins.refused("set(" + array + ", " + cell + ", 77)", () -> Twins.filled(1),
                    LaneLoops.BAD_CELL, x -> x.set(inside, cell, 77));
            }
        }
        LaneLoops x = new LaneLoops();
        for (int cell : new int[] {0, 31}) {
            for (int array = 0; array < 3; array++) {
                Check.due("set(" + array + ", " + cell + ", 77)", x.set(array, cell, 77), 0);
                Check.due("get(" + array + ", " + cell + ")", x.get(array, cell), 77);
            }
        }
    }

    private static void promise5OldValue() {
        Check.sentence("Promise 5", "Else answers the old value.");
        for (int array = 0; array < 3; array++) {
            for (int cell : new int[] {0, 1, 30, 31}) {
                LaneLoops x = new LaneLoops();
                int old = 0;
                // Old values may look like refusals.
                for (int value : new int[] {LEAST, MOST, -1, -5, 0, 1}) {
                    String call = "set(" + array + ", " + cell + ", " + value + ")";
                    Check.due(call, x.set(array, cell, value), old);
                    Check.due(call + " then get", x.get(array, cell), value);
                    Check.due(call + " then sum", x.sum(array), value);
                    old = value;
                }
            }
        }
    }

    private static void promise6EveryCell() {
        Check.sentence("Promise 6", "Sets every cell of an array: cell i becomes first + i * step.");
        for (int array = 0; array < 3; array++) {
            LaneLoops x = Twins.filled(0);
            LaneLoops before = Twins.filled(0);
            x.ramp(array, 5, -2);
            for (int other = 0; other < 3; other++) {
                for (int cell = 0; cell < 32; cell++) {
                    int due = other == array ? 5 - 2 * cell : before.get(other, cell);
                    Check.due("ramp(" + array + ", 5, -2) then get", x.get(other, cell), due);
                }
            }
        }
    }

    private static void promise6RampsThatWrap() {
        Check.sentence("Promise 6", "cell i becomes first + i * step");
        LaneLoops x = new LaneLoops();
        x.ramp(0, MOST, 1);
        Check.due("MOST up by 1, cell 0", x.get(0, 0), MOST);
        Check.due("MOST up by 1, cell 1", x.get(0, 1), LEAST);
        Check.due("MOST up by 1, cell 31", x.get(0, 31), LEAST + 30);
        x.ramp(1, LEAST, -1);
        Check.due("LEAST down by 1, cell 0", x.get(1, 0), LEAST);
        Check.due("LEAST down by 1, cell 1", x.get(1, 1), MOST);
        Check.due("LEAST down by 1, cell 31", x.get(1, 31), MOST - 30);
        x.ramp(2, 7, 1 << 27);
        Check.due("a product that is just inside, cell 15", x.get(2, 15), 2013265927);
        Check.due("a product that wraps, cell 16", x.get(2, 16), LEAST + 7);
        Check.due("a product that wraps, cell 31", x.get(2, 31), 7 - (1 << 27));
        x.ramp(2, 9, 0);
        Check.due("step 0, cell 31", x.get(2, 31), 9);
        int[] ends = {LEAST, LEAST + 1, -1, 0, 1, MOST - 1, MOST};
        for (int first : ends) {
            for (int step : ends) {
                LaneLoops y = new LaneLoops();
                y.ramp(2, first, step);
                for (int cell = 0; cell < 32; cell++) {
                    int due = (int) ((long) first + (long) cell * step);
                    Check.due("ramp(2, " + first + ", " + step + ") cell " + cell, y.get(2, cell), due);
                }
            }
        }
    }

    private static void promise6ArrayOutside() {
        Check.sentence("Promise 6", "BAD_ARRAY, nothing changes.");
        for (int array : Outside.ARRAYS) {
            Twins.refused("ramp(" + array + ", 1, 1)", () -> Twins.filled(1), LaneLoops.BAD_ARRAY,
                x -> x.ramp(array, 1, 1));
        }
    }

    private static void promise6AnswersNought() {
        Check.sentence("Promise 6", "Else answers 0.");
        LaneLoops x = new LaneLoops();
        for (int array = 0; array < 3; array++) {
            for (int first : new int[] {LEAST, -1, 0, 5, MOST}) {
                Check.due("ramp(" + array + ", " + first + ", 3)", x.ramp(array, first, 3), 0);
            }
        }
    }

    private static void promise8FirstAndLastCell() {
        Check.sentence("Promise 8", "A cell");
        LaneLoops x = Twins.filled(0);
        Check.due("get(0, 0)", x.get(0, 0), 3);
        Check.due("get(0, 31)", x.get(0, 31), 3 + 31 * 7);
        Check.due("get(1, 0)", x.get(1, 0), -5);
        Check.due("get(1, 31)", x.get(1, 31), -5 + 31 * 11);
        Check.due("get(2, 0)", x.get(2, 0), 1000);
        Check.due("get(2, 31)", x.get(2, 31), 1000 - 31 * 13);
        x.set(2, 31, LEAST);
        Check.due("the least int", x.get(2, 31), LEAST);
        x.set(2, 31, MOST);
        Check.due("the greatest int", x.get(2, 31), MOST);
    }

    private static void promise8NoCell() {
        Check.sentence("Promise 8", "0 if there is none");
        LaneLoops x = Twins.filled(0);
        for (int cell : Outside.CELLS) {
            for (int array = 0; array < 3; array++) {
                Check.due("get(" + array + ", " + cell + ")", x.get(array, cell), 0);
            }
        }
        for (int array : Outside.ARRAYS) {
            for (int cell : new int[] {0, 31}) {
                Check.due("get(" + array + ", " + cell + ")", x.get(array, cell), 0);
            }
            for (int cell : Outside.CELLS) {
                Check.due("get(" + array + ", " + cell + ")", x.get(array, cell), 0);
            }
        }
    }

    private static void promise9SumsThatWrap() {
        Check.sentence("Promise 9", "The sum (wrapping) of an array's cells");
        for (int array = 0; array < 3; array++) {
            LaneLoops x = new LaneLoops();
            x.set(array, 0, MOST);
            Check.due("MOST in cell 0", x.sum(array), MOST);
            x.set(array, 31, 1);
            Check.due("and 1 in cell 31", x.sum(array), LEAST);
            x.set(array, 0, LEAST);
            x.set(array, 31, -1);
            Check.due("LEAST in cell 0 and -1 in cell 31", x.sum(array), MOST);
            x.ramp(array, MOST, 0);
            Check.due("MOST in all cells", x.sum(array), -32);
            x.ramp(array, LEAST, 0);
            Check.due("LEAST in all cells", x.sum(array), 0);
            x.ramp(array, 1 << 26, 0);
            Check.due("2 to the 26th in all cells", x.sum(array), LEAST);
            for (int other = 0; other < 3; other++) {
                if (other != array) {
                    Check.due("the other arrays", x.sum(other), 0);
                }
            }
        }
    }

    private static void promise9ArrayOutside() {
        Check.sentence("Promise 9", "0 if array is not in 0 to 2");
        LaneLoops x = Twins.filled(0);
        for (int array : Outside.ARRAYS) {
            Check.due("sum(" + array + ")", x.sum(array), 0);
        }
        Check.due("sum(0)", x.sum(0), 32 * 3 + 496 * 7);
        Check.due("sum(1)", x.sum(1), 32 * -5 + 496 * 11);
        Check.due("sum(2)", x.sum(2), 32 * 1000 - 496 * 13);
    }

    private static void promise10FromNoneToAll() {
        Check.sentence("Promise 10", "How many cells two arrays have in which they differ");
        for (int a = 0; a < 3; a++) {
            for (int b = 0; b < 3; b++) {
                LaneLoops x = new LaneLoops();
                Check.due("differ(" + a + ", " + b + ") of a new object", x.differ(a, b), 0);
                for (int cell = 0; cell < 32; cell++) {
                    // One bit apart, the sign's among them: also those whose difference wraps.
                    x.set(a, cell, LEAST);
                    x.set(b, cell, LEAST ^ 1 << cell);
                    int due = a == b ? 0 : cell + 1;
                    Check.due("differ(" + a + ", " + b + ")", x.differ(a, b), due);
                    Check.due("differ(" + b + ", " + a + ")", x.differ(b, a), due);
                }
            }
        }
    }

    private static void promise10ArrayOutside() {
        Check.sentence("Promise 10", "BAD_ARRAY");
        LaneLoops x = Twins.filled(0);
        for (int outside : Outside.ARRAYS) {
            for (int inside = 0; inside < 3; inside++) {
                Check.due("differ(" + outside + ", " + inside + ")", x.differ(outside, inside), LaneLoops.BAD_ARRAY);
                Check.due("differ(" + inside + ", " + outside + ")", x.differ(inside, outside), LaneLoops.BAD_ARRAY);
            }
            for (int other : Outside.ARRAYS) {
                Check.due("differ(" + outside + ", " + other + ")", x.differ(outside, other), LaneLoops.BAD_ARRAY);
            }
        }
    }

    private static void promise13OrderOfSet() {
        Check.sentence("Promise 13", "set: BAD_ARRAY before BAD_CELL");
        for (int array : Outside.ARRAYS) {
            for (int cell : Outside.CELLS) {
                Twins.refused("set(" + array + ", " + cell + ", 77)", () -> Twins.filled(1),
                    LaneLoops.BAD_ARRAY, x -> x.set(array, cell, 77));
            }
        }
    }
}
