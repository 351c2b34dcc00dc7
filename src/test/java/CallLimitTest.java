import java.util.function.ToIntFunction;

/** The limit of 512 calls, all of which must be answered rightly, and the calls that change nothing. */
public final class CallLimitTest {
    private static final int MOST_CALLS = 512;

    public static void main(String[] args) {
        limitEveryCallAsTheLast();
        limitCallsOfOneKind();
        termsReadersChangeNothing();
        Check.finish();
    }

    /** An object that has been asked so much that only that many calls are left. */
    private static LaneLoops askedBut(int callsLeft) {
        LaneLoops x = Twins.filled(4);
        int calledToFill = 3 + 4;
        for (int call = calledToFill; call < MOST_CALLS - callsLeft; call++) {
            x.get(call % 3, call % 32);
        }
        return x;
    }

    private static void lastCall(String what, int due, ToIntFunction<LaneLoops> call) {
        Check.due("the 512th call, " + what, call.applyAsInt(askedBut(1)), due);
    }

    private static void limitEveryCallAsTheLast() {
        Check.sentence("What it is", "An object is used for at most 512 calls after it has been made");
        lastCall("statement", LaneLoops.FULL, x -> Twins.append(x, 0));
        lastCall("exchange", 0, x -> x.exchange(0, 3));
        lastCall("set", 1000 - 31 * 13, x -> x.set(2, 31, 5));
        lastCall("ramp", 0, x -> x.ramp(2, 1, 1));
        lastCall("run", 96, x -> x.run(4, 27));
        lastCall("get", 3 + 31 * 7, x -> x.get(0, 31));
        lastCall("sum", 32 * 3 + 496 * 7, x -> x.sum(0));
        lastCall("differ", 32, x -> x.differ(0, 2));
        lastCall("size", 4, LaneLoops::size);
        lastCall("mustPrecede", 1, x -> x.mustPrecede(0, 3, 0) ? 1 : 0);
        LaneLoops x = askedBut(2);
        x.clear();
        Check.due("the 512th call, size after clear", x.size(), 0);
    }

    private static void limitCallsOfOneKind() {
        Check.sentence("What it is", "at most 512 calls");
        LaneLoops runs = new LaneLoops();
        runs.statement(Op.ADDC, 0, Pack.NO_SHIFT, 1);
        for (int call = 2; call < MOST_CALLS; call++) {
            Check.due("run", runs.run(0, 31), 32);
        }
        Check.due("get after 510 runs", runs.get(0, 31), 510);
        LaneLoops sets = new LaneLoops();
        for (int call = 0; call < MOST_CALLS; call++) {
            Check.due("set", sets.set(1, 31, call + 1), call);
        }
        LaneLoops bodies = new LaneLoops();
        for (int call = 0; call < MOST_CALLS; call++) {
            if (call % 8 == 7) {
                bodies.clear();
            } else {
                int due = call % 8 < 4 ? call % 8 : LaneLoops.FULL;
                Check.due("statement", Twins.append(bodies, call % 4), due);
            }
        }
        LaneLoops refusals = new LaneLoops();
        for (int call = 0; call < MOST_CALLS; call++) {
            Check.due("exchange", refusals.exchange(0, 0), LaneLoops.BAD_OP);
        }
    }

    private static void termsReadersChangeNothing() {
        Check.sentence("Terms", "The calls below change nothing.");
        for (int size = 0; size <= 4; size++) {
            unchangedBy("get", size, x -> x.get(2, 31));
            unchangedBy("get of no cell", size, x -> x.get(0, 32));
            unchangedBy("get of no array", size, x -> x.get(3, 0));
            unchangedBy("sum", size, x -> x.sum(1));
            unchangedBy("sum of no array", size, x -> x.sum(-1));
            unchangedBy("differ", size, x -> x.differ(0, 2));
            unchangedBy("differ of no array", size, x -> x.differ(0, 3));
            unchangedBy("size", size, LaneLoops::size);
            for (int a = -1; a <= 4; a++) {
                for (int b = -1; b <= 4; b++) {
                    unchangedByMustPrecede(size, a, b);
                }
            }
        }
    }

    private static void unchangedByMustPrecede(int size, int a, int b) {
        for (int distance : new int[] {-1, 0, 1, 8, 9}) {
            String what = "mustPrecede(" + a + ", " + b + ", " + distance + ")";
            unchangedBy(what, size, x -> x.mustPrecede(a, b, distance) ? 1 : 0);
        }
    }

    private static void unchangedBy(String what, int size, ToIntFunction<LaneLoops> call) {
        LaneLoops x = Twins.filled(size);
        int answer = call.applyAsInt(x);
        Check.due(what + " again", call.applyAsInt(x), answer);
        // Asked an even number of times, an exchange would undo itself.
        Check.due(what + " a third time", call.applyAsInt(x), answer);
        Twins.same(what + " with a body of " + size + ", and then", x, Twins.filled(size));
    }
}
