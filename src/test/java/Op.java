/** The operations by the numbers that the document gives them. */
final class Op {
    static final int ADD = 0;
    static final int SUB = 1;
    static final int MUL = 2;
    static final int MIN = 3;
    static final int ADDC = 4;
    static final int SET = 5;
    static final int MULC = 6;

    private Op() {
    }

    static boolean looksAtX(int op) {
        return op != SET;
    }

    static boolean looksAtY(int op) {
        return op <= MIN;
    }
}
