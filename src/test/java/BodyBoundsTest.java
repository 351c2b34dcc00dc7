/** The boundary cases of the body, sentence by sentence: promises 1 to 4, 11, and 13 for `statement`. */
public final class BodyBoundsTest {
    public static void main(String[] args) {
        termsUpToFourStatements();
        termsShifts();
        promise1BodyIsEmpty();
        promise2NumbersOfEmptyToFull();
        promise2ArraysByTheirBits();
        promise2ShiftsByTheirBits();
        promise2OtherBits();
        promise2ArrayIsThree();
        promise2ShiftOutside();
        promise2OpOutside();
        promise2Full();
        promise2AllThreeAreTested();
        promise3ClearFromEmptyToFull();
        promise4ExchangeFirstToLast();
        promise4StatementMissing();
        promise4ExchangeAnswersNought();
        promise11SizeFromEmptyToFull();
        promise13OrderOfStatement();
        Check.finish();
    }

    private static void termsUpToFourStatements() {
        Check.sentence("Terms", "A LOOP has a body of up to four STATEMENTS, numbered from 0");
        LaneLoops x = new LaneLoops();
        for (int number = 0; number < 4; number++) {
            Check.due("statement " + number, Twins.append(x, number), number);
        }
        Check.due("a fifth", Twins.append(x, 0), LaneLoops.FULL);
        Check.due("size()", x.size(), 4);
    }

    private static void termsShifts() {
        Check.sentence("Terms", "Shifts are -4 to 4.");
        for (int role = 0; role < 3; role++) {
            for (int shift = -5; shift <= 5; shift++) {
                boolean allowed = shift >= -4 && shift <= 4;
                // -5 plus 4 has no place in four bits but as 15, so its neighbours stay as they are.
                int shifts = Pack.NO_SHIFT & ~(15 << 4 * role) | (shift + 4 & 15) << 4 * role;
                LaneLoops x = new LaneLoops();
                int due = allowed ? 0 : LaneLoops.BAD_SHIFT;
                Check.due("shift " + shift, x.statement(Op.ADD, 0, shifts, 0), due);
            }
        }
    }

    private static void promise1BodyIsEmpty() {
        Check.sentence("Promise 1", "the body is empty");
        LaneLoops x = new LaneLoops();
        Check.due("size()", x.size(), 0);
        Check.due("run(0, 31)", x.run(0, 31), 0);
        Check.due("exchange(0, 0)", x.exchange(0, 0), LaneLoops.BAD_OP);
        Check.due("mustPrecede(0, 0, 1)", x.mustPrecede(0, 0, 1), false);
        Check.due("the first statement's number", Twins.append(x, 0), 0);
    }

    private static void promise2NumbersOfEmptyToFull() {
        Check.sentence("Promise 2", "Else answers its number.");
        for (int op = Op.ADD; op <= Op.MULC; op++) {
            LaneLoops x = new LaneLoops();
            for (int number = 0; number < 4; number++) {
                String what = "op " + op + " behind " + number + " statements";
                Check.due(what, x.statement(op, 0, Pack.NO_SHIFT, 0), number);
            }
        }
        Check.sentence("Promise 2", "Appends a statement.");
        LaneLoops x = new LaneLoops();
        for (int number = 0; number < 4; number++) {
            x.statement(Op.SET, number % 3, Pack.NO_SHIFT, 10 + number);
            Check.due("run(0, 31)", x.run(0, 31), 32 * (number + 1));
            Check.due("the new one is carried out last", x.get(number % 3, 31), 10 + number);
            Check.due("those before it are carried out too", x.get(1, 0), number == 0 ? 0 : 11);
            x.ramp(1, 0, 0);
        }
    }

    private static void promise2ArraysByTheirBits() {
        Check.sentence("Promise 2",
            "'arrays' holds the target in bits 0 and 1, x in bits 2 and 3, y in bits 4 and 5");
        int[] held = {1000, 200, 30};
        for (int packed = 0; packed < 64; packed++) {
            int target = packed % 4;
            int first = packed / 4 % 4;
            int second = packed / 16;
            if (target < 3 && first < 3 && second < 3) {
                LaneLoops x = new LaneLoops();
                for (int array = 0; array < 3; array++) {
                    x.set(array, 10, held[array]);
                }
                x.statement(Op.SUB, packed, Pack.NO_SHIFT, 0);
                x.run(10, 10);
                for (int array = 0; array < 3; array++) {
                    int due = array == target ? held[first] - held[second] : held[array];
                    Check.due("arrays " + packed + " array " + array, x.get(array, 10), due);
                }
            }
        }
    }

    private static void promise2ShiftsByTheirBits() {
        Check.sentence("Promise 2", "'shifts' holds the target's shift plus 4 (so 0 to 8) in bits 0 to 3,"
            + " x's plus 4 in bits 4 to 7, y's plus 4 in bits 8 to 11");
        for (int target = 0; target <= 8; target++) {
            for (int first = 0; first <= 8; first++) {
                for (int second = 0; second <= 8; second++) {
                    int packed = target + 16 * first + 256 * second;
                    LaneLoops x = new LaneLoops();
                    x.ramp(1, 0, 100);
                    x.ramp(2, 0, 1);
                    x.statement(Op.SUB, Pack.arrays(0, 1, 2), packed, 0);
                    Check.due("shifts " + packed + " run(4, 4)", x.run(4, 4), 1);
                    Check.due("shifts " + packed + " target", x.get(0, target), 100 * first - second);
                    Check.due("shifts " + packed + " alone", x.sum(0), 100 * first - second);
                }
            }
        }
    }

    private static void promise2OtherBits() {
        Check.sentence("Promise 2", "other bits are not looked at");
        for (int bit = 6; bit < 32; bit++) {
            sameWithOtherBits("bit " + bit + " of arrays", 1 << bit, 0);
        }
        for (int bit = 12; bit < 32; bit++) {
            sameWithOtherBits("bit " + bit + " of shifts", 0, 1 << bit);
        }
        sameWithOtherBits("all other bits", ~63, ~4095);
    }

    private static void sameWithOtherBits(String what, int ofArrays, int ofShifts) {
        int arrays = Pack.arrays(1, 2, 0);
        int shifts = Pack.shifts(4, -4, 3);
        for (int op = Op.ADD; op <= Op.MULC; op++) {
            LaneLoops with = Twins.filled(2);
            LaneLoops without = Twins.filled(2);
            Check.due(what, with.statement(op, arrays | ofArrays, shifts | ofShifts, 6), 2);
            without.statement(op, arrays, shifts, 6);
            Twins.same(what + " op " + op, with, without);
        }
    }

    private static void promise2ArrayIsThree() {
        Check.sentence("Promise 2", "One of the three arrays is 3: BAD_ARRAY");
        for (int arrays = 0; arrays < 64; arrays++) {
            boolean bad = arrays % 4 == 3 || arrays / 4 % 4 == 3 || arrays / 16 == 3;
            if (bad) {
                refusedFromEmptyToFull(Op.ADD, arrays, Pack.NO_SHIFT, LaneLoops.BAD_ARRAY);
            } else {
                LaneLoops x = Twins.filled(3);
                Check.due("arrays " + arrays, x.statement(Op.ADD, arrays, Pack.NO_SHIFT, 0), 3);
            }
        }
    }

    private static void promise2ShiftOutside() {
        Check.sentence("Promise 2", "one of the three shifts is not in -4 to 4: BAD_SHIFT");
        for (int role = 0; role < 3; role++) {
            for (int plusFour = 0; plusFour < 16; plusFour++) {
                int shifts = Pack.NO_SHIFT & ~(15 << 4 * role) | plusFour << 4 * role;
                if (plusFour > 8) {
                    refusedFromEmptyToFull(Op.ADD, 0, shifts, LaneLoops.BAD_SHIFT);
                } else {
                    LaneLoops x = Twins.filled(3);
                    Check.due("shifts " + shifts, x.statement(Op.ADD, 0, shifts, 0), 3);
                }
            }
        }
        refusedFromEmptyToFull(Op.ADD, 0, 0x999, LaneLoops.BAD_SHIFT);
        refusedFromEmptyToFull(Op.ADD, 0, 0xFFF, LaneLoops.BAD_SHIFT);
        refusedFromEmptyToFull(Op.ADD, 0, -1, LaneLoops.BAD_SHIFT);
    }

    private static void promise2OpOutside() {
        Check.sentence("Promise 2", "op not in 0 to 6: BAD_OP");
        for (int op : Outside.OPS) {
            refusedFromEmptyToFull(op, 0, Pack.NO_SHIFT, LaneLoops.BAD_OP);
        }
        Check.due("the least op", Twins.filled(3).statement(0, 0, Pack.NO_SHIFT, 0), 3);
        Check.due("the greatest op", Twins.filled(3).statement(6, 0, Pack.NO_SHIFT, 0), 3);
    }

    private static void refusedFromEmptyToFull(int op, int arrays, int shifts, int answer) {
        for (int size = 0; size <= 4; size++) {
            int statements = size;
            String what = "op " + op + " arrays " + arrays + " shifts " + shifts + " behind " + size;
            Twins.refused(what, () -> Twins.filled(statements), answer,
                x -> x.statement(op, arrays, shifts, 99));
        }
    }

    private static void promise2Full() {
        Check.sentence("Promise 2", "there are four: FULL; nothing changes then.");
        Check.due("a fourth", Twins.append(Twins.filled(3), 3), 3);
        for (int op = Op.ADD; op <= Op.MULC; op++) {
            int kind = op;
            Twins.refused("a fifth with op " + op, () -> Twins.filled(4), LaneLoops.FULL,
                x -> x.statement(kind, Pack.arrays(2, 1, 0), Pack.shifts(1, 2, 3), 99));
        }
        LaneLoops x = Twins.filled(4);
        for (int more = 5; more < 100; more++) {
            Check.due("statement number " + more, Twins.append(x, 0), LaneLoops.FULL);
        }
        Twins.same("after many more", x, Twins.filled(4));
    }

    private static void promise2AllThreeAreTested() {
        Check.sentence("Promise 2", "(All three are tested, whatever the operation looks at.)");
        for (int op = Op.ADD; op <= Op.MULC; op++) {
            for (int role = 0; role < 3; role++) {
                int arrays = 3 << 2 * role;
                int shifts = Pack.NO_SHIFT + (5 << 4 * role);
                LaneLoops x = Twins.filled(1);
                String what = "op " + op + " role " + role;
                Check.due(what, x.statement(op, arrays, Pack.NO_SHIFT, 0), LaneLoops.BAD_ARRAY);
                Check.due(what, x.statement(op, 0, shifts, 0), LaneLoops.BAD_SHIFT);
                Twins.same(what, x, Twins.filled(1));
            }
        }
    }

    private static void promise3ClearFromEmptyToFull() {
        Check.sentence("Promise 3", "The body becomes empty.");
        for (int size = 0; size <= 4; size++) {
            LaneLoops x = Twins.filled(size);
            x.clear();
            Check.due("exchange(0, 0) after " + size, x.exchange(0, 0), LaneLoops.BAD_OP);
            Check.due("run(0, 31) after " + size, x.run(0, 31), 0);
            Twins.same("cleared of " + size, x, Twins.filled(0));
            for (int number = 0; number < 4; number++) {
                Check.due("statement after clear", Twins.append(x, number), number);
            }
            Check.due("a fifth after clear", Twins.append(x, 0), LaneLoops.FULL);
            x.clear();
            x.clear();
            Check.due("size() after clearing twice", x.size(), 0);
        }
    }

    private static void promise4ExchangeFirstToLast() {
        Check.sentence("Promise 4", "Exchanges two statements.");
        forEachPair((size, a, b) -> {
            LaneLoops x = Twins.filled(size);
            x.exchange(a, b);
            LaneLoops due = Twins.filled(0);
            for (int number = 0; number < size; number++) {
                Twins.append(due, number == a ? b : number == b ? a : number);
            }
            Twins.same("exchange(" + a + ", " + b + ") of " + size, x, due);
        });
    }

    private static void promise4StatementMissing() {
        Check.sentence("Promise 4", "One doesn't exist: BAD_OP, nothing changes.");
        for (int size = 0; size <= 4; size++) {
            for (int missing : Outside.statements(size)) {
                for (int there = 0; there < size; there++) {
                    refusedExchange(size, missing, there);
                    refusedExchange(size, there, missing);
                }
                refusedExchange(size, missing, missing);
            }
        }
    }

    private static void refusedExchange(int size, int a, int b) {
        // The places behind the body have held statements before, so that a look there would show.
        Twins.refused("exchange(" + a + ", " + b + ") of " + size, () -> filledAfterClear(size),
            LaneLoops.BAD_OP, x -> x.exchange(a, b));
    }

    private static LaneLoops filledAfterClear(int size) {
        LaneLoops x = Twins.filled(4);
        x.clear();
        for (int number = 0; number < size; number++) {
            Twins.append(x, number);
        }
        return x;
    }

    private static void promise4ExchangeAnswersNought() {
        Check.sentence("Promise 4", "Else answers 0.");
        forEachPair((size, a, b) -> {
            LaneLoops x = Twins.filled(size);
            Check.due("exchange(" + a + ", " + b + ") of " + size, x.exchange(a, b), 0);
        });
    }

    private interface Pair {
        void ask(int size, int a, int b);
    }

    private static void forEachPair(Pair pair) {
        for (int size = 1; size <= 4; size++) {
            for (int a = 0; a < size; a++) {
                for (int b = 0; b < size; b++) {
                    pair.ask(size, a, b);
                }
            }
        }
    }

    private static void promise11SizeFromEmptyToFull() {
        Check.sentence("Promise 11", "How many statements the body has.");
        LaneLoops x = new LaneLoops();
        Check.due("size() of the empty body", x.size(), 0);
        for (int size = 1; size <= 4; size++) {
            Twins.append(x, size - 1);
            Check.due("size()", x.size(), size);
            x.statement(7, 0, Pack.NO_SHIFT, 0);
            Check.due("size() after a refused statement", x.size(), size);
        }
        Twins.append(x, 0);
        Check.due("size() after a fifth", x.size(), 4);
        x.run(4, 27);
        x.exchange(0, 3);
        Check.due("size() after a run and an exchange", x.size(), 4);
        x.clear();
        Check.due("size() after clear", x.size(), 0);
    }

    private static void promise13OrderOfStatement() {
        Check.sentence("Promise 13",
            "statement: BAD_ARRAY, BAD_SHIFT, BAD_OP and FULL are tested in this order");
        for (int faults = 1; faults < 16; faults++) {
            for (int role = 0; role < 3; role++) {
                for (int otherRole = 0; otherRole < 3; otherRole++) {
                    refusedByFirstFault(faults, role, otherRole);
                }
            }
        }
    }

    private static void refusedByFirstFault(int faults, int roleOfArray, int roleOfShift) {
        boolean badArray = (faults & 1) != 0;
        boolean badShift = (faults & 2) != 0;
        boolean badOp = (faults & 4) != 0;
        boolean full = (faults & 8) != 0;
        int arrays = badArray ? 3 << 2 * roleOfArray : 0;
        int shifts = Pack.NO_SHIFT + (badShift ? 5 << 4 * roleOfShift : 0);
        int due = badArray ? LaneLoops.BAD_ARRAY
            : badShift ? LaneLoops.BAD_SHIFT
            : badOp ? LaneLoops.BAD_OP : LaneLoops.FULL;
        for (int op : badOp ? new int[] {-1, 7} : new int[] {0, 6}) {
            String what = "op " + op + " arrays " + arrays + " shifts " + shifts + (full ? " full" : "");
            Twins.refused(what, () -> Twins.filled(full ? 4 : 3), due,
                x -> x.statement(op, arrays, shifts, 1));
        }
    }
}
