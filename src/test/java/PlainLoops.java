import java.util.ArrayList;
import java.util.Collections;
import java.util.List;

/** The whole class as the document tells it, one index and one statement at a time, for comparison. */
final class PlainLoops {
    private record Reference(int array, int shift) {
        boolean meets(Reference other, int distance) {
            int index = 16;
            return array == other.array && index + shift == index + distance + other.shift;
        }

        boolean staysInside(int index) {
            return index + shift >= 0 && index + shift <= 31;
        }
    }

    private record Statement(int op, List<Reference> named, int constant) {
        Reference target() {
            return named.get(0);
        }

        List<Reference> read() {
            return switch (op) {
                case 0, 1, 2, 3 -> named.subList(1, 3);
                case 5 -> List.of();
                default -> named.subList(1, 2);
            };
        }
    }

    private final int[][] cells = new int[3][32];
    private final List<Statement> body = new ArrayList<>();

    int statement(int op, int arrays, int shifts, int constant) {
        List<Reference> named = List.of(
            new Reference(arrays & 0x3, (shifts & 0xf) - 4),
            new Reference((arrays & 0xc) / 4, (shifts & 0xf0) / 16 - 4),
            new Reference((arrays & 0x30) / 16, (shifts & 0xf00) / 256 - 4));
        if (named.stream().anyMatch(r -> r.array() == 3)) {
            return LaneLoops.BAD_ARRAY;
        }
        if (named.stream().anyMatch(r -> r.shift() > 4)) {
            return LaneLoops.BAD_SHIFT;
        }
        if (!List.of(0, 1, 2, 3, 4, 5, 6).contains(op)) {
            return LaneLoops.BAD_OP;
        }
        if (body.size() == 4) {
            return LaneLoops.FULL;
        }
        body.add(new Statement(op, named, constant));
        return body.size() - 1;
    }

    void clear() {
        body.clear();
    }

    int exchange(int a, int b) {
        if (!exists(a) || !exists(b)) {
            return LaneLoops.BAD_OP;
        }
        Collections.swap(body, a, b);
        return 0;
    }

    int set(int array, int cell, int value) {
        if (array < 0 || array > 2) {
            return LaneLoops.BAD_ARRAY;
        }
        if (cell < 0 || cell > 31) {
            return LaneLoops.BAD_CELL;
        }
        int old = cells[array][cell];
        cells[array][cell] = value;
        return old;
    }

    int ramp(int array, int first, int step) {
        if (array < 0 || array > 2) {
            return LaneLoops.BAD_ARRAY;
        }
        for (int i = 0; i < 32; i++) {
            cells[array][i] = (int) (first + (long) i * step);
        }
        return 0;
    }

    int run(int low, int high) {
        if (low < 0 || low > 31 || high < 0 || high > 31) {
            return LaneLoops.BAD_CELL;
        }
        for (Statement s : body) {
            if (!s.named().stream().allMatch(r -> r.staysInside(low) && r.staysInside(high))) {
                return LaneLoops.BAD_SHIFT;
            }
        }
        int carriedOut = 0;
        for (int i = low; i <= high; i++) {
            for (Statement s : body) {
                cells[s.target().array()][i + s.target().shift()] = (int) value(s, i);
                carriedOut++;
            }
        }
        return carriedOut;
    }

    private long value(Statement s, int i) {
        long x = source(s, 1, i);
        long y = source(s, 2, i);
        return switch (s.op()) {
            case 0 -> x + y;
            case 1 -> x - y;
            case 2 -> x * y;
            case 3 -> Math.min(x, y);
            case 4 -> x + s.constant();
            case 5 -> s.constant();
            default -> x * s.constant();
        };
    }

    private int source(Statement s, int which, int i) {
        Reference r = s.named().get(which);
        return cells[r.array()][i + r.shift()];
    }

    int get(int array, int cell) {
        boolean there = array >= 0 && array <= 2 && cell >= 0 && cell <= 31;
        return there ? cells[array][cell] : 0;
    }

    int sum(int array) {
        long total = 0;
        for (int cell = 0; cell < 32; cell++) {
            total += get(array, cell);
        }
        return (int) total;
    }

    int differ(int a, int b) {
        if (a < 0 || a > 2 || b < 0 || b > 2) {
            return LaneLoops.BAD_ARRAY;
        }
        int different = 0;
        for (int cell = 0; cell < 32; cell++) {
            different += cells[a][cell] == cells[b][cell] ? 0 : 1;
        }
        return different;
    }

    int size() {
        return body.size();
    }

    boolean mustPrecede(int a, int b, int distance) {
        if (distance < 0 || distance > 8 || !exists(a) || !exists(b) || distance == 0 && a >= b) {
            return false;
        }
        Statement first = body.get(a);
        Statement second = body.get(b);
        return first.target().meets(second.target(), distance)
            || second.read().stream().anyMatch(r -> first.target().meets(r, distance))
            || first.read().stream().anyMatch(r -> r.meets(second.target(), distance));
    }

    private boolean exists(int number) {
        return number >= 0 && number < body.size();
    }
}
