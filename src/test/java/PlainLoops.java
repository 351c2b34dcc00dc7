import java.util.ArrayList;
import java.util.List;

/** The loop as the document's Terms tell it, one index and one statement at a time, for comparison. */
final class PlainLoops {
    record Reference(int array, int shift) {
        boolean meets(Reference other, int distance) {
            int index = 16;
            return array == other.array && index + shift == index + distance + other.shift;
        }
    }

    record Statement(int op, Reference target, Reference x, Reference y, int constant) {
        List<Reference> read() {
            return switch (op) {
                case 0, 1, 2, 3 -> List.of(x, y);
                case 5 -> List.of();
                default -> List.of(x);
            };
        }
    }

    final int[][] cells = new int[3][32];
    final List<Statement> body = new ArrayList<>();

    int run(int low, int high) {
        for (Statement s : body) {
            for (Reference r : List.of(s.target(), s.x(), s.y())) {
                for (int end : new int[] {low, high}) {
                    if (end + r.shift() < 0 || end + r.shift() > 31) {
                        return LaneLoops.BAD_SHIFT;
                    }
                }
            }
        }
        int carriedOut = 0;
        for (int i = low; i <= high; i++) {
            for (Statement s : body) {
                cells[s.target().array()][i + s.target().shift()] = value(s, i);
                carriedOut++;
            }
        }
        return carriedOut;
    }

    private int value(Statement s, int i) {
        int x = cells[s.x().array()][i + s.x().shift()];
        int y = cells[s.y().array()][i + s.y().shift()];
        return switch (s.op()) {
            case 0 -> x + y;
            case 1 -> x - y;
            case 2 -> x * y;
            case 3 -> Math.min(x, y);
            case 4 -> x + s.constant();
            case 5 -> s.constant();
            default -> x * s.constant();
        };
    }

    boolean mustPrecede(int a, int b, int distance) {
        if (distance == 0 && a >= b) {
            return false;
        }
        Statement first = body.get(a);
        Statement second = body.get(b);
        return first.target().meets(second.target(), distance)
            || second.read().stream().anyMatch(r -> first.target().meets(r, distance))
            || first.read().stream().anyMatch(r -> r.meets(second.target(), distance));
    }
}
