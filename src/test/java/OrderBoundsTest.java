/** The boundary cases of `mustPrecede`, sentence by sentence: promise 12. */
public final class OrderBoundsTest {
    public static void main(String[] args) {
        promise12GreatestDistance();
        promise12SameIndex();
        promise12OneOfThemWrites();
        promise12SourcesLookedAt();
        promise12WhateverLowAndHigh();
        promise12DistanceOutside();
        promise12StatementMissing();
        promise12NotABeforeB();
        Check.finish();
    }

    private static void promise12GreatestDistance() {
        Check.sentence("Promise 12",
            "carried out for some index, must come before statement b carried out for some index"
            + " that is 'distance' greater");
        LaneLoops x = new LaneLoops();
        x.statement(Op.SET, Pack.arrays(0, 1, 1), Pack.shifts(4, 0, 0), 1);
        x.statement(Op.ADD, Pack.arrays(2, 0, 1), Pack.shifts(0, -4, 4), 1);
        x.statement(Op.ADD, Pack.arrays(2, 1, 0), Pack.shifts(0, 4, -4), 1);
        x.statement(Op.SET, Pack.arrays(0, 1, 1), Pack.shifts(-4, 0, 0), 1);
        for (int d = 0; d <= 8; d++) {
            Check.due("written, then x reads it, distance " + d, x.mustPrecede(0, 1, d), d == 8);
            Check.due("written, then y reads it, distance " + d, x.mustPrecede(0, 2, d), d == 8);
            Check.due("written, then written, distance " + d, x.mustPrecede(0, 3, d), d == 8);
            Check.due("the other way, distance " + d, x.mustPrecede(3, 0, d), false);
        }
        LaneLoops y = new LaneLoops();
        y.statement(Op.ADD, Pack.arrays(2, 0, 1), Pack.shifts(0, 4, -4), 1);
        y.statement(Op.ADD, Pack.arrays(2, 1, 0), Pack.shifts(0, -4, 4), 1);
        y.statement(Op.SET, Pack.arrays(0, 1, 1), Pack.shifts(-4, 0, 0), 1);
        y.statement(Op.MUL, Pack.arrays(1, 1, 0), Pack.shifts(4, -4, 4), 1);
        for (int d = 0; d <= 8; d++) {
            Check.due("x read, then written, distance " + d, y.mustPrecede(0, 2, d), d == 8);
            Check.due("y read, then written, distance " + d, y.mustPrecede(1, 2, d), d == 8);
            Check.due("itself, distance " + d, y.mustPrecede(3, 3, d), d == 8);
        }
    }

    private static void promise12SameIndex() {
        Check.sentence("Promise 12", "(or the same index with distance 0 and a < b)");
        for (int shift = -4; shift <= 4; shift++) {
            LaneLoops x = new LaneLoops();
            x.statement(Op.SUB, Pack.arrays(0, 2, 2), Pack.shifts(shift, shift, shift), 0);
            x.statement(Op.SUB, Pack.arrays(0, 1, 1), Pack.shifts(shift, 0, 0), 0);
            x.statement(Op.SUB, Pack.arrays(1, 0, 1), Pack.shifts(shift, shift, 0), 0);
            x.statement(Op.SUB, Pack.arrays(2, 2, 1), Pack.shifts(shift, 0, 0), 0);
            Check.due("written, written, shift " + shift, x.mustPrecede(0, 1, 0), true);
            Check.due("written, read, shift " + shift, x.mustPrecede(0, 2, 0), true);
            Check.due("read, written, shift " + shift, x.mustPrecede(0, 3, 0), true);
            Check.due("no cell of both, shift " + shift, x.mustPrecede(1, 3, 0), false);
        }
    }

    private static void promise12OneOfThemWrites() {
        Check.sentence("Promise 12",
            "because one of them writes a cell that the other one reads (sources that are looked at) or writes too");
        LaneLoops x = new LaneLoops();
        x.statement(Op.ADD, Pack.arrays(0, 2, 2), Pack.NO_SHIFT, 0);
        x.statement(Op.ADD, Pack.arrays(1, 2, 2), Pack.shifts(0, 0, -1), 0);
        for (int d = 0; d <= 8; d++) {
            Check.due("two that read one cell, distance " + d, x.mustPrecede(0, 1, d), false);
            Check.due("one that reads a cell twice, distance " + d, x.mustPrecede(1, 1, d), false);
        }
        // One apart in the shift or in the array is already another cell.
        for (int array = 0; array < 3; array++) {
            for (int shift = -4; shift <= 4; shift++) {
                LaneLoops y = new LaneLoops();
                y.statement(Op.SET, Pack.arrays(array, 0, 0), Pack.shifts(shift, 0, 0), 0);
                y.statement(Op.SET, Pack.arrays(1, 0, 0), Pack.NO_SHIFT, 0);
                for (int d = 0; d <= 8; d++) {
                    boolean due = array == 1 && shift == d;
                    String what = "array " + array + " shift " + shift + " distance " + d;
                    Check.due(what, y.mustPrecede(0, 1, d), due);
                }
            }
        }
    }

    private static void promise12SourcesLookedAt() {
        Check.sentence("Promise 12", "(sources that are looked at)");
        for (int op = Op.ADD; op <= Op.MULC; op++) {
            LaneLoops x = new LaneLoops();
            x.statement(Op.SET, Pack.arrays(0, 2, 2), Pack.shifts(3, 0, 0), 1);
            x.statement(op, Pack.arrays(1, 0, 2), Pack.shifts(0, 1, 0), 0);
            x.statement(op, Pack.arrays(1, 2, 0), Pack.shifts(0, 0, 1), 0);
            x.statement(Op.SET, Pack.arrays(0, 2, 2), Pack.shifts(-1, 0, 0), 1);
            String what = "op " + op;
            Check.due(what + " written, then x", x.mustPrecede(0, 1, 2), Op.looksAtX(op));
            Check.due(what + " written, then y", x.mustPrecede(0, 2, 2), Op.looksAtY(op));
            Check.due(what + " x, then written", x.mustPrecede(1, 3, 2), Op.looksAtX(op));
            Check.due(what + " y, then written", x.mustPrecede(2, 3, 2), Op.looksAtY(op));
        }
    }

    private static void promise12WhateverLowAndHigh() {
        Check.sentence("Promise 12", "whatever low and high may be");
        int[][] runs = {{4, 4}, {27, 27}, {4, 27}, {27, 4}, {0, 31}, {-1, 32}};
        for (int[] run : runs) {
            LaneLoops x = new LaneLoops();
            x.statement(Op.MULC, Pack.arrays(0, 0, 0), Pack.shifts(4, -4, 0), 0);
            for (int round = 0; round < 2; round++) {
                String what = "round " + round + " with run(" + run[0] + ", " + run[1] + ")";
                Check.due(what + " distance 8", x.mustPrecede(0, 0, 8), true);
                Check.due(what + " distance 7", x.mustPrecede(0, 0, 7), false);
                x.run(run[0], run[1]);
            }
        }
    }

    /** Every two of its statements, taken at distance 0 or 1, write or read a cell in common. */
    private static LaneLoops entangled(int statements) {
        LaneLoops x = new LaneLoops();
        for (int s = 0; s < statements; s++) {
            x.statement(Op.ADDC, Pack.arrays(0, 0, 0), Pack.shifts(0, -1, 0), s);
        }
        return x;
    }

    private static void promise12DistanceOutside() {
        Check.sentence("Promise 12", "distance not in 0 to 8");
        for (int shift = -4; shift <= 4; shift++) {
            for (int other = -4; other <= 4; other++) {
                LaneLoops x = new LaneLoops();
                x.statement(Op.MIN, Pack.arrays(0, 0, 0), Pack.shifts(shift, other, other), 0);
                x.statement(Op.MIN, Pack.arrays(0, 0, 0), Pack.shifts(other, shift, shift), 0);
                for (int distance : Outside.DISTANCES) {
                    for (int pair = 0; pair < 4; pair++) {
                        String what = "shifts " + shift + " " + other + " distance " + distance;
                        Check.due(what, x.mustPrecede(pair / 2, pair % 2, distance), false);
                    }
                }
                for (int d = 0; d <= 8; d++) {
                    String what = "shifts " + shift + " " + other + " distance " + d;
                    Check.due(what, x.mustPrecede(0, 1, d), d == 0 || shift == other + d);
                    Check.due(what + " back", x.mustPrecede(1, 0, d), d > 0 && other == shift + d);
                }
            }
        }
    }

    private static void promise12StatementMissing() {
        Check.sentence("Promise 12", "or a statement that doesn't exist");
        for (int size = 0; size <= 4; size++) {
            // The places behind the body have held statements before, so that a look there would show.
            LaneLoops x = entangled(4);
            x.clear();
            for (int s = 0; s < size; s++) {
                x.statement(Op.ADDC, Pack.arrays(0, 0, 0), Pack.shifts(0, -1, 0), s);
            }
            for (int missing : Outside.statements(size)) {
                for (int d = 0; d <= 1; d++) {
                    String what = missing + " of " + size + " distance " + d;
                    for (int there = 0; there < size; there++) {
                        Check.due("a is " + what, x.mustPrecede(missing, there, d), false);
                        Check.due("b is " + what, x.mustPrecede(there, missing, d), false);
                    }
                    Check.due("both are " + what, x.mustPrecede(missing, missing, d), false);
                }
            }
            for (int last = 1; last < size; last++) {
                Check.due("the last statement is b", x.mustPrecede(0, last, 1), true);
                Check.due("the last statement is a", x.mustPrecede(last, 0, 1), true);
            }
        }
    }

    private static void promise12NotABeforeB() {
        Check.sentence("Promise 12", "or distance 0 and not a < b: false.");
        LaneLoops x = entangled(4);
        for (int a = 0; a < 4; a++) {
            for (int b = 0; b < 4; b++) {
                String what = "mustPrecede(" + a + ", " + b;
                Check.due(what + ", 0)", x.mustPrecede(a, b, 0), a < b);
                Check.due(what + ", 1)", x.mustPrecede(a, b, 1), true);
            }
        }
    }
}
