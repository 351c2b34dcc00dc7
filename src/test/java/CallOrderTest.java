import java.util.Set;
import java.util.TreeSet;

/** Whole lives of objects, 512 calls of every kind in any order, by LaneLoops and by PlainLoops. */
public final class CallOrderTest {
    private static final int OBJECTS = 6_000;
    private static final int MOST_CALLS = 512;
    private static final int CELLS_IN_ALL = 3 * 32;
    private static final String[] KINDS = {
        "statement", "clear", "exchange", "set", "ramp", "run", "get", "sum", "differ", "size", "mustPrecede"};
    /** Every refusal that the document names, and every kind of call carried out. */
    private static final Set<String> DUE_TO_BE_SEEN = Set.of(
        "statement -1", "statement -2", "statement -3", "statement -4", "statement carried out",
        "exchange -3", "exchange carried out", "set -1", "set -5", "set carried out",
        "ramp -1", "ramp carried out", "run -5", "run -2", "run carried out", "run of nothing",
        "get carried out", "sum carried out", "differ -1", "differ carried out", "size carried out",
        "mustPrecede false", "mustPrecede true");

    private static final Draw DRAW = new Draw(512_2026L);
    private static final Set<String> SEEN = new TreeSet<>();

    private final LaneLoops lanes = new LaneLoops();
    private final PlainLoops plain = new PlainLoops();
    private final String name;
    private final int[] weights = new int[KINDS.length];
    private final int widest = DRAW.below(5);
    /** An argument is wrong on purpose once in so many times. */
    private final int chancesOfWrong = DRAW.oneOf(new int[] {4, 10, 40});

    private CallOrderTest(int number) {
        name = "object " + number;
        for (int kind = 0; kind < KINDS.length; kind++) {
            // A kind may be nearly all that one object is asked, and missing in another.
            weights[kind] = DRAW.oneOf(new int[] {0, 1, 4, 16, 128});
        }
        weights[0]++;
    }

    public static void main(String[] args) {
        for (int number = 0; number < OBJECTS; number++) {
            new CallOrderTest(number).live();
        }
        for (String due : DUE_TO_BE_SEEN) {
            Check.due("so many calls have '" + due + "' among them", SEEN.contains(due), true);
        }
        Check.finish();
    }

    private void live() {
        for (int call = 1; call <= MOST_CALLS - CELLS_IN_ALL; call++) {
            ask(name + ", call " + call + ": ", KINDS[drawKind()]);
        }
        for (int cell = 0; cell < CELLS_IN_ALL; cell++) {
            int due = plain.get(cell / 32, cell % 32);
            String call = "at last get(" + cell / 32 + ", " + cell % 32 + ")";
            Check.due(name + ", " + call, lanes.get(cell / 32, cell % 32), due);
        }
    }

    private int drawKind() {
        int all = 0;
        for (int weight : weights) {
            all += weight;
        }
        int left = DRAW.below(all);
        int kind = 0;
        while (left >= weights[kind]) {
            left -= weights[kind];
            kind++;
        }
        return kind;
    }

    private void ask(String when, String kind) {
        switch (kind) {
            case "statement" -> askStatement(when);
            case "clear" -> {
                lanes.clear();
                plain.clear();
            }
            case "exchange" -> askExchange(when);
            case "set" -> askSet(when);
            case "ramp" -> askRamp(when);
            case "run" -> askRun(when);
            case "get" -> askGet(when);
            case "sum" -> askSum(when);
            case "differ" -> askDiffer(when);
            case "size" -> due(when, "size", "()", lanes.size(), plain.size());
            default -> askMustPrecede(when);
        }
    }

    private static void due(String when, String kind, String arguments, int got, int want) {
        SEEN.add(kind + (want < 0 && want >= LaneLoops.BAD_CELL ? " " + want : " carried out"));
        Check.due(when + kind + arguments, got, want);
    }

    private void askStatement(String when) {
        int op = wrong() ? DRAW.oneOf(Outside.OPS) : DRAW.below(7);
        int arrays = Pack.arrays(packedArray(), packedArray(), packedArray()) | DRAW.anyInt() << 6;
        int shifts = packedShift() | packedShift() << 4 | packedShift() << 8 | DRAW.anyInt() << 12;
        int constant = number();
        String arguments = "(" + op + ", " + arrays + ", " + shifts + ", " + constant + ")";
        int want = plain.statement(op, arrays, shifts, constant);
        due(when, "statement", arguments, lanes.statement(op, arrays, shifts, constant), want);
    }

    private void askExchange(String when) {
        int a = statement();
        int b = statement();
        due(when, "exchange", "(" + a + ", " + b + ")", lanes.exchange(a, b), plain.exchange(a, b));
    }

    private void askSet(String when) {
        int array = array();
        int cell = cell();
        int value = number();
        String arguments = "(" + array + ", " + cell + ", " + value + ")";
        due(when, "set", arguments, lanes.set(array, cell, value), plain.set(array, cell, value));
    }

    private void askRamp(String when) {
        int array = array();
        int first = number();
        int step = number();
        String arguments = "(" + array + ", " + first + ", " + step + ")";
        due(when, "ramp", arguments, lanes.ramp(array, first, step), plain.ramp(array, first, step));
    }

    private void askRun(String when) {
        // Ends drawn from all cells are mostly refused, as soon as a body has wide shifts.
        boolean inside = !DRAW.rarely(4);
        int low = inside ? widest + DRAW.below(32 - 2 * widest) : cell();
        int high = inside ? widest + DRAW.below(32 - 2 * widest) : cell();
        int want = plain.run(low, high);
        if (want == 0 && plain.size() > 0) {
            SEEN.add("run of nothing");
        }
        due(when, "run", "(" + low + ", " + high + ")", lanes.run(low, high), want);
    }

    private void askGet(String when) {
        int array = array();
        int cell = cell();
        due(when, "get", "(" + array + ", " + cell + ")", lanes.get(array, cell), plain.get(array, cell));
    }

    private void askSum(String when) {
        int array = array();
        due(when, "sum", "(" + array + ")", lanes.sum(array), plain.sum(array));
    }

    private void askDiffer(String when) {
        int a = array();
        int b = array();
        due(when, "differ", "(" + a + ", " + b + ")", lanes.differ(a, b), plain.differ(a, b));
    }

    private void askMustPrecede(String when) {
        int a = statement();
        int b = statement();
        int distance = wrong() ? DRAW.oneOf(Outside.DISTANCES) : DRAW.below(9);
        boolean want = plain.mustPrecede(a, b, distance);
        SEEN.add("mustPrecede " + want);
        String call = "mustPrecede(" + a + ", " + b + ", " + distance + ")";
        Check.due(when + call, lanes.mustPrecede(a, b, distance), want);
    }

    private boolean wrong() {
        return DRAW.rarely(chancesOfWrong);
    }

    private int packedArray() {
        return wrong() ? 3 : DRAW.below(3);
    }

    private int packedShift() {
        return wrong() ? 9 + DRAW.below(7) : 4 - widest + DRAW.below(2 * widest + 1);
    }

    private int statement() {
        boolean none = wrong() || plain.size() == 0;
        return none ? DRAW.oneOf(Outside.statements(plain.size())) : DRAW.below(plain.size());
    }

    private int array() {
        return wrong() ? DRAW.oneOf(Outside.ARRAYS) : DRAW.below(3);
    }

    private int cell() {
        return wrong() ? DRAW.oneOf(Outside.CELLS) : DRAW.below(32);
    }

    private int number() {
        return DRAW.rarely(3) ? DRAW.anyInt() : DRAW.below(9) - 4;
    }
}
