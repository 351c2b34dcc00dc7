/** The promises of the document one after the other: ordinary inputs, edges and wrong inputs. */
public final class PromisesTest {
    private static final int ADD = 0;
    private static final int SUB = 1;
    private static final int MUL = 2;
    private static final int MIN = 3;
    private static final int ADDC = 4;
    private static final int SET = 5;
    private static final int MULC = 6;
    private static final int LEAST = Integer.MIN_VALUE;
    private static final int MOST = Integer.MAX_VALUE;

    public static void main(String[] args) {
        promise1NewObject();
        promise2StatementNumbers();
        promise2StatementRefusals();
        promise2OtherBits();
        promise3Clear();
        promise4Exchange();
        promise5Set();
        promise6Ramp();
        promise7RunOperations();
        promise7RunOrder();
        promise7RunRefusals();
        promise8Get();
        promise9Sum();
        promise10Differ();
        promise11Size();
        promise12MustPrecedeKinds();
        promise12MustPrecedeSourcesLookedAt();
        promise12MustPrecedeRefusals();
        promise13Order();
        promise13LowAboveHigh();
        readersChangeNothing();
        Check.finish();
    }

    private static void promise1NewObject() {
        LaneLoops x = new LaneLoops();
        for (int array = 0; array < 3; array++) {
            for (int cell = 0; cell < 32; cell++) {
                Check.due("1: a new cell", x.get(array, cell), 0);
            }
        }
        Check.due("1: a new body", x.size(), 0);
        Check.due("1: running a new body", x.run(0, 31), 0);
        LaneLoops other = new LaneLoops();
        x.set(0, 0, 5);
        x.statement(SET, Pack.arrays(0, 0, 0), Pack.NO_SHIFT, 1);
        Check.due("1: objects share no cell", other.get(0, 0), 0);
        Check.due("1: objects share no body", other.size(), 0);
    }

    private static void promise2StatementNumbers() {
        LaneLoops x = new LaneLoops();
        for (int number = 0; number < 4; number++) {
            int got = x.statement(number, Pack.arrays(0, 1, 2), Pack.NO_SHIFT, 0);
            Check.due("2: number", got, number);
        }
        Check.due("2: a fifth", x.statement(ADD, 0, Pack.NO_SHIFT, 0), LaneLoops.FULL);
        Check.due("2: size after a fifth", x.size(), 4);
        for (int op = 0; op <= 6; op++) {
            LaneLoops y = new LaneLoops();
            Check.due("2: op " + op, y.statement(op, 0, Pack.NO_SHIFT, 0), 0);
        }
    }

    private static void promise2StatementRefusals() {
        LaneLoops x = new LaneLoops();
        for (int op = 0; op <= 6; op++) {
            for (int role = 0; role < 3; role++) {
                int arrays = 3 << (2 * role);
                Check.due("2: array 3", x.statement(op, arrays, Pack.NO_SHIFT, 0), LaneLoops.BAD_ARRAY);
                for (int nibble = 9; nibble < 16; nibble++) {
                    int shifts = nibble << (4 * role);
                    Check.due("2: shift", x.statement(op, 0, shifts, 0), LaneLoops.BAD_SHIFT);
                }
            }
        }
        for (int op : new int[] {-1, 7, 8, LEAST, MOST}) {
            Check.due("2: op " + op, x.statement(op, 0, Pack.NO_SHIFT, 0), LaneLoops.BAD_OP);
        }
        Check.due("2: size after refusals", x.size(), 0);
        for (int role = 0; role < 3; role++) {
            x.clear();
            Check.due("2: shift -4", x.statement(ADD, 0, Pack.NO_SHIFT & ~(15 << 4 * role), 0), 0);
            Check.due("2: shift 4", x.statement(ADD, 0, Pack.NO_SHIFT + (4 << 4 * role), 0), 1);
            Check.due("2: array 2", x.statement(ADD, 2 << 2 * role, Pack.NO_SHIFT, 0), 2);
        }
    }

    private static void promise2OtherBits() {
        LaneLoops x = new LaneLoops();
        x.ramp(1, 10, 1);
        x.ramp(2, 100, 10);
        int arrays = Pack.arrays(0, 1, 2) | ~63;
        int shifts = Pack.shifts(1, -1, 2) | ~4095;
        Check.due("2: other bits", x.statement(ADD, arrays, shifts, 0), 0);
        Check.due("2: run", x.run(5, 5), 1);
        Check.due("2: target", x.get(0, 6), 14 + 170);
        Check.due("2: distance sees shifts only", x.mustPrecede(0, 0, 2), false);
    }

    private static void promise3Clear() {
        LaneLoops x = new LaneLoops();
        x.clear();
        Check.due("3: clearing an empty body", x.size(), 0);
        x.set(1, 3, 9);
        x.statement(SET, 0, Pack.NO_SHIFT, 5);
        x.statement(SET, 0, Pack.NO_SHIFT, 6);
        x.clear();
        Check.due("3: size", x.size(), 0);
        Check.due("3: nothing is run", x.run(0, 31), 0);
        Check.due("3: cells of the target stay", x.get(0, 0), 0);
        Check.due("3: other cells stay", x.get(1, 3), 9);
        Check.due("3: numbers begin again", x.statement(SET, 0, Pack.NO_SHIFT, 7), 0);
        Check.due("3: exchange with a cleared one", x.exchange(0, 1), LaneLoops.BAD_OP);
    }

    private static void promise4Exchange() {
        LaneLoops x = new LaneLoops();
        x.ramp(1, 50, 1);
        x.statement(ADDC, Pack.arrays(0, 1, 2), Pack.shifts(-1, 2, 3), 7);
        x.statement(MULC, Pack.arrays(2, 0, 1), Pack.shifts(1, -1, 0), 3);
        x.statement(SET, Pack.arrays(1, 0, 0), Pack.shifts(-4, 0, 0), 8);
        dueAfterRun("4: before", x, 4, 56 + 7, 3 * 63);
        Check.due("4: exchange", x.exchange(0, 1), 0);
        dueAfterRun("4: exchanged", x, 6, 58 + 7, 0);
        Check.due("4: the order asked", x.mustPrecede(0, 1, 0), true);
        Check.due("4: exchange back", x.exchange(1, 0), 0);
        dueAfterRun("4: exchanged back", x, 8, 60 + 7, 3 * 67);
        Check.due("4: with itself", x.exchange(1, 1), 0);
        dueAfterRun("4: exchanged with itself", x, 10, 62 + 7, 3 * 69);
        for (int number : new int[] {-1, 3, 4, LEAST, MOST}) {
            Check.due("4: first missing", x.exchange(number, 0), LaneLoops.BAD_OP);
            Check.due("4: second missing", x.exchange(0, number), LaneLoops.BAD_OP);
            Check.due("4: both missing", x.exchange(number, number), LaneLoops.BAD_OP);
        }
        dueAfterRun("4: after refusals", x, 12, 64 + 7, 3 * 71);
        Check.due("4: size stays", x.size(), 3);
    }

    /** Runs the body of promise 4 for one index and looks at what its first two statements write. */
    private static void dueAfterRun(String what, LaneLoops x, int index, int added, int multiplied) {
        Check.due(what + ": run", x.run(index, index), 3);
        Check.due(what + ": ADDC", x.get(0, index - 1), added);
        Check.due(what + ": MULC", x.get(2, index + 1), multiplied);
        Check.due(what + ": SET", x.get(1, index - 4), 8);
    }

    private static void promise5Set() {
        LaneLoops x = new LaneLoops();
        for (int array = 0; array < 3; array++) {
            for (int cell : new int[] {0, 1, 30, 31}) {
                int value = 1000 * array + cell + 1;
                Check.due("5: old value", x.set(array, cell, value), 0);
                Check.due("5: set", x.get(array, cell), value);
                Check.due("5: old value again", x.set(array, cell, -value), value);
            }
        }
        Check.due("5: only the cells set", x.sum(0), -(1 + 2 + 31 + 32));
        Check.due("5: the least value", x.set(0, 0, LEAST), -1);
        Check.due("5: the greatest value", x.set(0, 0, MOST), LEAST);
        x.set(0, 0, -1);
        for (int array : new int[] {-1, 3, LEAST, MOST}) {
            Check.due("5: array " + array, x.set(array, 0, 77), LaneLoops.BAD_ARRAY);
        }
        for (int cell : new int[] {-1, 32, LEAST, MOST}) {
            for (int array = 0; array < 3; array++) {
                Check.due("5: cell " + cell, x.set(array, cell, 77), LaneLoops.BAD_CELL);
            }
        }
        for (int array = 0; array < 3; array++) {
            int sum = -(4000 * array + 1 + 2 + 31 + 32);
            Check.due("5: a refusal changes nothing", x.sum(array), sum);
        }
    }

    private static void promise6Ramp() {
        LaneLoops x = new LaneLoops();
        for (int array = 0; array < 3; array++) {
            x.set(array, 9, 123);
            Check.due("6: ramp", x.ramp(array, array - 7, 3 - 2 * array), 0);
        }
        for (int array = 0; array < 3; array++) {
            for (int i = 0; i < 32; i++) {
                Check.due("6: cell " + i, x.get(array, i), array - 7 + i * (3 - 2 * array));
            }
        }
        for (int array : new int[] {-1, 3, LEAST, MOST}) {
            Check.due("6: array " + array, x.ramp(array, 1, 1), LaneLoops.BAD_ARRAY);
        }
        Check.due("6: a refusal changes nothing", x.sum(0), -7 * 32 + 3 * 496);
        x.ramp(0, MOST, MOST);
        Check.due("6: wraps once", x.get(0, 1), -2);
        Check.due("6: wraps far", x.get(0, 31), MOST + 31 * MOST);
        x.ramp(0, 4, 0);
        Check.due("6: step 0", x.sum(0), 128);
    }

    private static int once(int op, int first, int second, int constant) {
        LaneLoops x = new LaneLoops();
        x.set(1, 11, first);
        x.set(2, 8, second);
        x.statement(op, Pack.arrays(0, 1, 2), Pack.shifts(3, 1, -2), constant);
        Check.due("7: one statement", x.run(10, 10), 1);
        int value = x.get(0, 13);
        Check.due("7: only the target", x.sum(0), value);
        Check.due("7: x stays", x.get(1, 11), first);
        Check.due("7: y stays", x.get(2, 8), second);
        return value;
    }

    private static void promise7RunOperations() {
        Check.due("7: ADD", once(ADD, 7, -9, 100), -2);
        Check.due("7: ADD wraps", once(ADD, MOST, 1, 100), LEAST);
        Check.due("7: SUB", once(SUB, 7, -9, 100), 16);
        Check.due("7: SUB wraps", once(SUB, LEAST, 1, 100), MOST);
        Check.due("7: MUL", once(MUL, 7, -9, 100), -63);
        Check.due("7: MUL wraps", once(MUL, 65536, 65536, 100), 0);
        Check.due("7: MIN, y the smaller", once(MIN, 7, -9, -100), -9);
        Check.due("7: MIN, x the smaller", once(MIN, -10, -9, -100), -10);
        Check.due("7: MIN at the ends", once(MIN, MOST, LEAST, 0), LEAST);
        Check.due("7: MIN at the other ends", once(MIN, LEAST, MOST, 0), LEAST);
        Check.due("7: ADDC", once(ADDC, 7, -9, 100), 107);
        Check.due("7: ADDC wraps", once(ADDC, MOST, -9, 2), LEAST + 1);
        Check.due("7: SET", once(SET, 7, -9, 100), 100);
        Check.due("7: MULC", once(MULC, 7, -9, -100), -700);
        Check.due("7: MULC wraps", once(MULC, LEAST, -9, -1), LEAST);
    }

    /** Each body has a value that travels from index to index, so lanes or another order would show. */
    private static void promise7RunOrder() {
        for (int distance = 1; distance <= 4; distance++) {
            LaneLoops x = new LaneLoops();
            x.ramp(0, 1, 0);
            x.statement(ADDC, Pack.arrays(0, 0, 0), Pack.shifts(0, -distance, 0), 1);
            Check.due("7: count", x.run(4, 31), 28);
            for (int i = 4; i < 32; i++) {
                int steps = (i - 4) / distance + 1;
                Check.due("7: carried on by " + distance, x.get(0, i), 1 + steps);
            }
        }
        for (int distance = 1; distance <= 4; distance++) {
            LaneLoops x = new LaneLoops();
            x.ramp(0, 0, 1);
            x.statement(ADDC, Pack.arrays(0, 0, 0), Pack.shifts(0, distance, 0), 100);
            x.run(0, 27);
            for (int i = 0; i < 28; i++) {
                Check.due("7: read ahead by " + distance, x.get(0, i), i + distance + 100);
            }
        }
        LaneLoops x = new LaneLoops();
        x.ramp(1, 5, 1);
        x.statement(ADDC, Pack.arrays(0, 1, 0), Pack.shifts(0, 0, 0), 0);
        x.statement(SET, Pack.arrays(1, 0, 0), Pack.shifts(1, 0, 0), -1);
        Check.due("7: two statements", x.run(0, 30), 62);
        Check.due("7: the first index", x.get(0, 0), 5);
        for (int i = 1; i < 31; i++) {
            Check.due("7: the later statement's cell is read next", x.get(0, i), -1);
        }
        Check.due("7: above high", x.get(0, 31), 0);
        LaneLoops y = new LaneLoops();
        y.statement(SET, Pack.arrays(2, 0, 0), Pack.shifts(0, 0, 0), 1);
        y.statement(SET, Pack.arrays(2, 0, 0), Pack.shifts(2, 0, 0), 2);
        y.run(0, 29);
        Check.due("7: the greater index writes last", y.sum(2), 30 + 2 * 2);
    }

    private static void promise7RunRefusals() {
        for (int role = 0; role < 3; role++) {
            for (int op = 0; op <= 6; op++) {
                for (int shift = -4; shift <= 4; shift++) {
                    refuseOutside(op, role, shift);
                }
            }
        }
        LaneLoops x = new LaneLoops();
        for (int bad : new int[] {-1, 32, LEAST, MOST}) {
            Check.due("7: low " + bad, x.run(bad, 5), LaneLoops.BAD_CELL);
            Check.due("7: high " + bad, x.run(5, bad), LaneLoops.BAD_CELL);
        }
        for (int count = 1; count <= 4; count++) {
            x.statement(SET, Pack.arrays(0, 0, 0), Pack.shifts(0, 0, 0), count);
            for (int high = 0; high < 32; high++) {
                Check.due("7: count", x.run(0, high), count * (high + 1));
            }
            Check.due("7: the last statement stays", x.sum(0), 32 * count);
        }
    }

    private static void refuseOutside(int op, int role, int shift) {
        LaneLoops x = new LaneLoops();
        x.ramp(0, 1, 1);
        x.statement(SET, Pack.arrays(0, 0, 0), Pack.NO_SHIFT, 0);
        x.statement(op, Pack.arrays(0, 1, 2), Pack.NO_SHIFT + (shift << 4 * role), 0);
        int low = shift < 0 ? -shift : 0;
        int high = shift > 0 ? 31 - shift : 31;
        String what = "7: op " + op + " role " + role + " shift " + shift;
        if (low > 0) {
            Check.due(what + " low", x.run(low - 1, high), LaneLoops.BAD_SHIFT);
            Check.due(what + " high alone", x.run(low, low - 1), LaneLoops.BAD_SHIFT);
        }
        if (high < 31) {
            Check.due(what + " high", x.run(low, high + 1), LaneLoops.BAD_SHIFT);
            Check.due(what + " low alone", x.run(high + 1, high), LaneLoops.BAD_SHIFT);
        }
        Check.due(what + " changes nothing", x.sum(0), 528);
        Check.due(what + " at the edges", x.run(low, high), 2 * (high - low + 1));
    }

    private static void promise8Get() {
        LaneLoops x = new LaneLoops();
        for (int array = 0; array < 3; array++) {
            x.ramp(array, 100 * (array + 1), 1);
        }
        for (int array = 0; array < 3; array++) {
            Check.due("8: first", x.get(array, 0), 100 * (array + 1));
            Check.due("8: last", x.get(array, 31), 100 * (array + 1) + 31);
            for (int cell : new int[] {-1, 32, -32, LEAST, MOST}) {
                Check.due("8: no cell", x.get(array, cell), 0);
            }
        }
        for (int array : new int[] {-1, 3, LEAST, MOST}) {
            Check.due("8: no array", x.get(array, 5), 0);
        }
    }

    private static void promise9Sum() {
        LaneLoops x = new LaneLoops();
        for (int array = 0; array < 3; array++) {
            Check.due("9: new", x.sum(array), 0);
            x.ramp(array, array, array + 1);
        }
        for (int array = 0; array < 3; array++) {
            Check.due("9: sum", x.sum(array), 32 * array + 496 * (array + 1));
        }
        x.ramp(1, 0, 0);
        x.set(1, 0, MOST);
        x.set(1, 31, 1);
        Check.due("9: wraps", x.sum(1), LEAST);
        for (int array : new int[] {-1, 3, LEAST, MOST}) {
            Check.due("9: no array", x.sum(array), 0);
        }
    }

    private static void promise10Differ() {
        LaneLoops x = new LaneLoops();
        Check.due("10: new", x.differ(0, 2), 0);
        x.set(0, 0, 1);
        x.set(2, 31, 1);
        Check.due("10: two cells", x.differ(0, 2), 2);
        Check.due("10: turned round", x.differ(2, 0), 2);
        Check.due("10: first cell", x.differ(0, 1), 1);
        Check.due("10: last cell", x.differ(1, 2), 1);
        x.ramp(1, 7, 1);
        Check.due("10: all", x.differ(0, 1), 32);
        for (int array = 0; array < 3; array++) {
            Check.due("10: with itself", x.differ(array, array), 0);
        }
        x.set(1, 3, LEAST);
        x.set(0, 3, MOST);
        Check.due("10: far apart", x.differ(0, 1), 32);
        for (int array : new int[] {-1, 3, LEAST, MOST}) {
            Check.due("10: first", x.differ(array, 0), LaneLoops.BAD_ARRAY);
            Check.due("10: second", x.differ(0, array), LaneLoops.BAD_ARRAY);
            Check.due("10: both", x.differ(array, array), LaneLoops.BAD_ARRAY);
        }
    }

    private static void promise11Size() {
        LaneLoops x = new LaneLoops();
        for (int count = 0; count < 4; count++) {
            Check.due("11: size", x.size(), count);
            x.statement(9, 0, Pack.NO_SHIFT, 0);
            Check.due("11: size after a refusal", x.size(), count);
            x.statement(ADD, 0, Pack.NO_SHIFT, 0);
        }
        Check.due("11: size", x.size(), 4);
        x.run(0, 31);
        x.exchange(0, 3);
        Check.due("11: size after other calls", x.size(), 4);
        x.clear();
        Check.due("11: size after clear", x.size(), 0);
    }

    private static void promise12MustPrecedeKinds() {
        for (int shift = -4; shift <= 4; shift++) {
            for (int other = -4; other <= 4; other++) {
                LaneLoops x = new LaneLoops();
                x.statement(SET, Pack.arrays(0, 1, 1), Pack.shifts(shift, 0, 0), 1);
                x.statement(ADDC, Pack.arrays(1, 0, 1), Pack.shifts(0, other, 0), 1);
                x.statement(SET, Pack.arrays(0, 1, 1), Pack.shifts(other, 0, 0), 1);
                x.statement(MUL, Pack.arrays(2, 1, 0), Pack.shifts(0, 0, other), 1);
                for (int d = 0; d <= 8; d++) {
                    boolean met = shift == other + d;
                    boolean back = other == shift + d;
                    String what = "12: " + shift + " " + other + " distance " + d;
                    Check.due(what + " write, read x", x.mustPrecede(0, 1, d), met);
                    Check.due(what + " write, write", x.mustPrecede(0, 2, d), met);
                    Check.due(what + " write, read y", x.mustPrecede(0, 3, d), met);
                    Check.due(what + " read x, write", x.mustPrecede(1, 0, d), back && d > 0);
                    Check.due(what + " write, write back", x.mustPrecede(2, 0, d), back && d > 0);
                    Check.due(what + " read y, write", x.mustPrecede(3, 0, d), back && d > 0);
                    Check.due(what + " with itself", x.mustPrecede(0, 0, d), false);
                }
            }
        }
        LaneLoops x = new LaneLoops();
        x.statement(ADD, Pack.arrays(1, 1, 1), Pack.shifts(2, -1, 4), 0);
        for (int d = 0; d <= 8; d++) {
            Check.due("12: itself at " + d, x.mustPrecede(0, 0, d), d == 2 || d == 3);
        }
        x.statement(ADD, Pack.arrays(0, 2, 2), Pack.NO_SHIFT, 0);
        x.statement(ADD, Pack.arrays(1, 2, 2), Pack.NO_SHIFT, 0);
        Check.due("12: two readers of one cell", x.mustPrecede(1, 2, 0), false);
    }

    private static void promise12MustPrecedeSourcesLookedAt() {
        for (int op = 0; op <= 6; op++) {
            LaneLoops x = new LaneLoops();
            x.statement(SET, Pack.arrays(0, 2, 2), Pack.shifts(3, 0, 0), 1);
            x.statement(op, Pack.arrays(1, 0, 2), Pack.shifts(0, 1, 0), 0);
            x.statement(op, Pack.arrays(1, 2, 0), Pack.shifts(0, 0, 1), 0);
            x.statement(SET, Pack.arrays(0, 2, 2), Pack.shifts(-1, 0, 0), 1);
            boolean looksAtX = op != SET;
            boolean looksAtY = op <= MIN;
            Check.due("12: op " + op + " reads x after", x.mustPrecede(0, 1, 2), looksAtX);
            Check.due("12: op " + op + " reads y after", x.mustPrecede(0, 2, 2), looksAtY);
            Check.due("12: op " + op + " reads x before", x.mustPrecede(1, 3, 2), looksAtX);
            Check.due("12: op " + op + " reads y before", x.mustPrecede(2, 3, 2), looksAtY);
        }
    }

    private static void promise12MustPrecedeRefusals() {
        LaneLoops x = new LaneLoops();
        Check.due("12: empty body", x.mustPrecede(0, 0, 1), false);
        x.statement(ADD, Pack.arrays(0, 0, 0), Pack.shifts(4, -4, 3), 0);
        x.statement(SET, Pack.arrays(0, 0, 0), Pack.shifts(4, 0, 0), 0);
        Check.due("12: greatest distance", x.mustPrecede(0, 0, 8), true);
        Check.due("12: greatest distance, two", x.mustPrecede(1, 0, 8), true);
        Check.due("12: least distance", x.mustPrecede(0, 1, 0), true);
        Check.due("12: distance 0, b before a", x.mustPrecede(1, 0, 0), false);
        Check.due("12: distance 0, itself", x.mustPrecede(1, 1, 0), false);
        for (int distance : new int[] {-1, -8, 9, LEAST, MOST}) {
            for (int a = 0; a < 2; a++) {
                Check.due("12: distance " + distance, x.mustPrecede(a, 0, distance), false);
                Check.due("12: distance " + distance, x.mustPrecede(a, 1, distance), false);
            }
        }
        for (int missing : new int[] {-1, 2, 3, 4, LEAST, MOST}) {
            for (int distance = 0; distance <= 8; distance++) {
                Check.due("12: no a", x.mustPrecede(missing, 0, distance), false);
                Check.due("12: no b", x.mustPrecede(0, missing, distance), false);
            }
        }
        x.clear();
        Check.due("12: cleared", x.mustPrecede(0, 1, 0), false);
        x.statement(SET, Pack.arrays(1, 0, 0), Pack.shifts(4, 0, 0), 0);
        Check.due("12: one of the cleared", x.mustPrecede(0, 1, 0), false);
    }

    private static void promise13Order() {
        LaneLoops x = new LaneLoops();
        int badArrays = Pack.arrays(0, 0, 3);
        int badShifts = Pack.shifts(5, 0, 0);
        for (int round = 0; round < 2; round++) {
            Check.due("13: all wrong", x.statement(7, badArrays, badShifts, 0), LaneLoops.BAD_ARRAY);
            Check.due("13: array, op", x.statement(7, badArrays, Pack.NO_SHIFT, 0), LaneLoops.BAD_ARRAY);
            Check.due("13: array", x.statement(0, badArrays, Pack.NO_SHIFT, 0), LaneLoops.BAD_ARRAY);
            Check.due("13: shift, op", x.statement(7, 0, badShifts, 0), LaneLoops.BAD_SHIFT);
            Check.due("13: shift", x.statement(0, 0, badShifts, 0), LaneLoops.BAD_SHIFT);
            Check.due("13: op", x.statement(7, 0, Pack.NO_SHIFT, 0), LaneLoops.BAD_OP);
            // The second round asks a full body the same.
            for (int i = 0; i < 4; i++) {
                x.statement(ADD, 0, Pack.shifts(-1, 1, 0), 0);
            }
        }
        Check.due("13: full", x.statement(0, 0, Pack.NO_SHIFT, 0), LaneLoops.FULL);
        Check.due("13: set", x.set(3, 32, 1), LaneLoops.BAD_ARRAY);
        Check.due("13: set", x.set(-1, -1, 1), LaneLoops.BAD_ARRAY);
        Check.due("13: run, low outside", x.run(-1, 31), LaneLoops.BAD_CELL);
        Check.due("13: run, high outside", x.run(0, 32), LaneLoops.BAD_CELL);
        Check.due("13: run", x.run(0, 31), LaneLoops.BAD_SHIFT);
    }

    private static void promise13LowAboveHigh() {
        LaneLoops x = new LaneLoops();
        x.ramp(0, 1, 1);
        Check.due("13: empty body", x.run(31, 0), 0);
        Check.due("13: cell", x.run(32, 0), LaneLoops.BAD_CELL);
        Check.due("13: cell", x.run(31, -1), LaneLoops.BAD_CELL);
        x.statement(SET, Pack.arrays(0, 0, 0), Pack.shifts(-1, 0, 2), 0);
        Check.due("13: inside", x.run(29, 1), 0);
        Check.due("13: inside, next to each other", x.run(6, 5), 0);
        Check.due("13: low outside", x.run(30, 1), LaneLoops.BAD_SHIFT);
        Check.due("13: high outside", x.run(29, 0), LaneLoops.BAD_SHIFT);
        Check.due("13: nothing changes", x.sum(0), 528);
    }

    private static void readersChangeNothing() {
        LaneLoops x = new LaneLoops();
        x.ramp(0, 3, 5);
        x.statement(ADDC, Pack.arrays(0, 0, 0), Pack.shifts(0, -1, 0), 2);
        for (int round = 0; round < 2; round++) {
            Check.due("readers: get", x.get(0, 2), 13);
            Check.due("readers: sum", x.sum(0), 32 * 3 + 496 * 5);
            Check.due("readers: differ", x.differ(0, 1), 32);
            Check.due("readers: size", x.size(), 1);
            Check.due("readers: mustPrecede", x.mustPrecede(0, 0, 1), true);
        }
    }
}
